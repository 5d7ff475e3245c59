/** Promises 20 to 27: follow, loosen, pull, cut, clip, unclip, cross, open. */
public final class DoneTest {
    /** The row: a b loose, b c threaded, a c tight, c a knot, a b threaded. STIFF: 0, 4, 1. */
    private static final String TANGLE = "lead a long 9 costs 50; lead b long 9 stiff 4 costs 7; lead c long 9 stiff 1; lead d long 9;"
        + "cross a b; cross b c threaded; cross a c tight; cross c a knot; cross a b threaded;";

    public static void main(String[] args) {
        follow();
        loosen();
        pull();
        cut();
        clips();
        cross();
        open();
        openDrawsOn();
        openWithFullRow();
        Check.finish();
    }

    private static void follow() {
        CableDrawer x = Check.with(TANGLE);
        Check.due("LOOSE and 4", x.follow(0, 0), 5);
        Check.due("status", x.status(), 0);
        Check.row(x, 1, 2, 1, 0, 2, 2, 2, 0, 3, 0, 1, 1);
        Check.due("THREADED and 4", x.follow(0, 1), 7);
        Check.row(x, 1, 2, 1, 0, 2, 2, 2, 0, 3);
        Check.due("KNOT and 0", x.follow(2, 1), 15);
        Check.due("TIGHT and 1", x.follow(0, 1), 7);
        Check.due("THREADED and 1", x.follow(1, 0), 4);
        Check.row(x);
        Check.due("SECONDS", x.many(5), 38);
        Check.refused("no CROSSING", x, x.follow(0, 0), 8);
        Check.refused("no such LEAD", x, x.follow(4, 0), 2);
        Check.refused("2 ahead of 5", x, x.follow(-1, 2), 2);
        Check.refused("no such END", x, x.follow(0, 2), 5);
        Check.refused("no such END", x, x.follow(0, -1), 5);
        x.cut(0);
        Check.refused("9 ahead of 8", x, x.follow(0, 0), 9);
        Check.refused("5 ahead of 9", x, x.follow(0, 2), 5);
        Check.due("refused calls take no SECONDS", x.many(5), 38);
    }

    private static void loosen() {
        CableDrawer x = Check.with(TANGLE);
        Check.due("loosen", x.loosen(), 5);
        Check.row(x, 1, 2, 0, 0, 2, 1, 2, 0, 3, 0, 1, 0);
        Check.due("loosen", x.loosen(), 4);
        Check.row(x, 0, 2, 0, 2, 0, 3);
        Check.due("loosen", x.loosen(), 2);
        Check.row(x, 2, 0, 3);
        Check.due("a KNOT stays", x.loosen(), 1);
        Check.row(x, 2, 0, 3);
        Check.due("SECONDS", x.many(5), 12);
        CableDrawer y = new CableDrawer();
        Check.due("none there", y.loosen(), 0);
        Check.due("status", y.status(), 0);
    }

    private static void pull() {
        CableDrawer x = Check.with(TANGLE);
        Check.due("a with b and c", x.pull(0), 3);
        Check.row(x, 1, 2, 1, 0, 2, 3, 2, 0, 3, 0, 1, 2);
        Check.due("b with a and c", x.pull(1), 3);
        Check.row(x, 1, 2, 2, 0, 2, 3, 2, 0, 3, 0, 1, 3);
        Check.due("d comes", x.pull(3), 1);
        Check.due("SECONDS", x.many(5), 6);
        CableDrawer y = Check.with("lead a long 9; lead b long 9; cross a b; cross b a;");
        Check.due("LOOSE ones don't hold it", y.pull(1), 1);
        Check.row(y);
        Check.due("it is free", y.free(1), 1);
        Check.due("SECONDS", y.many(5), 2);
        Check.refused("no such LEAD", y, y.pull(2), 2);
        Check.refused("no such LEAD", y, y.pull(-1), 2);
        y.cut(0);
        Check.refused("not IN", y, y.pull(0), 9);
        Check.due("SECONDS", y.many(5), 2);
    }

    private static void cut() {
        CableDrawer x = Check.with(TANGLE);
        Check.due("cut(0)", x.cut(0), 4);
        Check.row(x, 1, 2, 1);
        Check.due("IN", x.many(3), 14);
        Check.due("PENCE", x.many(6), 50);
        Check.due("SECONDS", x.many(5), 0);
        Check.due("without CROSSINGS", x.cut(3), 0);
        Check.due("status", x.status(), 0);
        Check.due("cut(1)", x.cut(1), 1);
        Check.due("PENCE", x.many(6), 57);
        Check.refused("gone for good", x, x.cut(1), 9);
        Check.refused("no such LEAD", x, x.cut(4), 2);
        Check.refused("no such LEAD", x, x.cut(Integer.MIN_VALUE), 2);
        Check.due("PENCE", x.many(6), 57);
    }

    private static void clips() {
        CableDrawer x = Check.with("lead a long 9; lead b long 9; lead c long 9; lead d long 9 clip; cross a b;");
        Check.due("clip(2)", x.clip(2), true);
        Check.due("12 SECONDS", x.many(5), 12);
        Check.due("with a CLIP", x.many(4), 12);
        Check.refused("has a CLIP", x, x.clip(2), 9);
        Check.refused("has a CLIP", x, x.clip(3), 9);
        Check.refused("with CROSSINGS", x, x.clip(0), 9);
        Check.refused("no such LEAD", x, x.clip(4), 2);
        Check.due("unclip(2)", x.unclip(2), true);
        Check.due("no SECONDS", x.many(5), 12);
        Check.due("with a CLIP", x.many(4), 8);
        Check.refused("without a CLIP", x, x.unclip(2), 9);
        Check.refused("with CROSSINGS", x, x.unclip(0), 9);
        Check.refused("no such LEAD", x, x.unclip(-1), 2);
        x.cut(2);
        x.cut(3);
        Check.refused("not IN", x, x.clip(2), 9);
        Check.refused("not IN", x, x.unclip(3), 9);
        Check.due("IN with a CLIP", x.many(4), 0);
        x.pull(0);
        Check.due("free by a pull", x.clip(0), true);
    }

    private static void cross() {
        CableDrawer x = Check.with("lead a long 9; lead b long 9; lead c long 9 clip; lead d long 9;");
        Check.due("the first", x.cross(1, 0, 3), 1);
        Check.due("behind the last one", x.cross(0, 3, 0), 2);
        Check.row(x, 1, 0, 3, 0, 3, 0);
        Check.due("no SECONDS", x.many(5), 0);
        Check.refused("no such LEAD", x, x.cross(4, 4, 9), 2);
        Check.refused("no such LEAD", x, x.cross(0, -1, 0), 2);
        Check.refused("one and itself", x, x.cross(2, 2, 0), 5);
        Check.refused("no STATE", x, x.cross(0, 1, 4), 5);
        Check.refused("no STATE, ahead of 9", x, x.cross(0, 2, -1), 5);
        Check.refused("a CLIP", x, x.cross(0, 2, 0), 9);
        Check.refused("a CLIP", x, x.cross(2, 0, 0), 9);
        x.cut(3);
        Check.refused("not IN", x, x.cross(3, 0, 0), 9);
        Check.refused("not IN", x, x.cross(0, 3, 0), 9);
        for (int n = 2; n <= 24; n++) {
            Check.due("cross", x.cross(0, 1, n % 4), n);
        }
        Check.refused("one too many", x, x.cross(0, 1, 0), 7);
        Check.refused("9 behind 7", x, x.cross(0, 2, 0), 7);
        Check.refused("5 ahead of 7", x, x.cross(0, 0, 0), 5);
        Check.due("24", x.many(1), 24);
    }

    /** Seed 0: s is 10,529, 38,802, 25,683, 31,004, ..: by 8 these are 1,316, 4,850, 3,210, 3,875. */
    private static void open() {
        // 1,316 by 16 is 4: less than RISK 5, not less than RISK 4
        CableDrawer x = Check.with("lead a long 10 ends 3 4; lead b long 2; lead c long 2 stiff 1;");
        Check.due("a is crossed, with 4,850 by 2 the first of the others", x.open(0), 1);
        Check.row(x, 0, 1, 0);
        Check.due("no SECONDS", x.many(5), 0);
        Check.due("OPENINGS", x.many(7), 1);
        CableDrawer y = Check.with("lead a long 9; lead b long 2;");
        Check.due("RISK 4", y.open(0), 0);
        Check.due("OPENINGS", y.many(7), 1);
        // an END smaller than STIFF and 2
        CableDrawer z = Check.with("lead a long 10 ends 9 3; lead b long 2 stiff 2;");
        z.open(0);
        Check.row(z, 0, 1, 1);
        CableDrawer w = Check.with("lead a long 10 ends 4 4; lead b long 2 stiff 2;");
        w.open(0);
        Check.row(w, 0, 1, 0);
        CableDrawer v = Check.with("lead a long 10 ends 9 9; lead b long 2 stiff 9;");
        v.open(0);
        Check.row(v, 0, 1, 0);
        CableDrawer u = Check.with("lead a long 10 ends 8 9; lead b long 2 stiff 9;");
        u.open(0);
        Check.row(u, 0, 1, 1);
        Check.refused("seed -1", u, u.open(-1), 5);
        Check.refused("seed 10,000", u, u.open(10000), 5);
        Check.due("OPENINGS", u.many(7), 1);
        Check.due("seed 9,999", u.open(9999) >= 0, true);
        CableDrawer none = new CableDrawer();
        Check.due("without LEADS", none.open(0), 0);
        Check.due("OPENINGS", none.many(7), 1);
    }

    private static void openDrawsOn() {
        // a with a CLIP draws nothing: b draws 1,316 by 16, 4; then 4,850 by 2, the first: c
        CableDrawer x = Check.with("lead a long 30 clip; lead b long 12; lead c long 2; lead d long 2;");
        Check.due("open(0)", x.open(0), 1);
        Check.row(x, 1, 2, 0);
        // a that is CUT draws nothing
        CableDrawer y = Check.with("lead a long 30; lead b long 12; lead c long 2;");
        y.cut(0);
        y.open(0);
        Check.row(y, 1, 2, 0);
        // a of RISK 0 draws 4; b draws 4,850 by 16, 2, and then 3,210 by 3, the first: a
        CableDrawer z = Check.with("lead a long 1; lead b long 6; lead c long 1; lead d long 1;");
        z.open(0);
        Check.row(z, 1, 0, 0);
        // alone among those without a CLIP: one draw, nothing comes, and b, too, is passed
        CableDrawer w = Check.with("lead a long 30; lead b long 30 clip;");
        Check.due("none to be crossed with", w.open(0), 0);
        // a and b: 4 < 6; 4,850 by 1; 3,210 by 16 is 10, not less than 10
        CableDrawer v = Check.with("lead a long 12; lead b long 20;");
        v.open(0);
        Check.row(v, 0, 1, 0);
        // the same with RISK 11
        CableDrawer u = Check.with("lead a long 12; lead b long 22;");
        u.open(0);
        Check.row(u, 0, 1, 0, 1, 0, 0);
    }

    private static void openWithFullRow() {
        CableDrawer x = Check.with("lead a long 12; lead b long 22;");
        for (int n = 0; n < 23; n++) {
            x.cross(0, 1, 3);
        }
        Check.due("the 24th comes, the 25th not", x.open(0), 1);
        Check.due("24", x.many(1), 24);
        Check.due("the last one", x.crossing(23, 0), 0);
        Check.due("none", x.open(0), 0);
        Check.due("24", x.many(1), 24);
    }
}
