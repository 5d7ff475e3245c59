/** Promises 51 to 54: live, lived, mean, odds. */
public final class YearsTest {
    private static final String THREE = "lead a long 10 costs 30; lead b long 2 costs 4; lead c long 2 stiff 1;";

    public static void main(String[] args) {
        steps();
        missed();
        tests();
        takes();
        draws();
        most300();
        refusals();
        livedKeeps();
        mean();
        odds();
        Check.finish();
    }

    private static void livedIs(CableDrawer x, int steps, int missed, int openings, int came, int taken, int left) {
        Check.due("live(0)", x.live(0), steps);
        Check.due("status", x.status(), 0);
        int[] due = {missed, openings, came, taken, left};
        for (int what = 0; what < 5; what++) {
            Check.due("lived(" + what + ")", x.lived(what), due[what]);
        }
    }

    private static void steps() {
        CableDrawer x = Check.with(THREE + "cross a b tight; cross a c;", "loosen; pull a; cut b; clip b; clip a; stop; loosen;");
        livedIs(x, 6, 1, 0, 0, 0, 0);
        Check.due("LOOSENED 2, PULLED 2, a CLIP 12", x.many(5), 16);
        Check.due("PENCE", x.many(6), 4);
        Check.due("all stays as it became", x.many(3), 5);
        Check.due("a has a CLIP", x.many(4), 1);
        Check.due("no CROSSINGS", x.many(1), 0);
        livedIs(x, 6, 3, 0, 0, 0, 0);
        Check.due("LOOSENED 0, PULLED 2", x.many(5), 18);
        CableDrawer y = Check.with(THREE, "loop 3; loosen; loop 2; pull a; end; end; loosen;");
        // 1, and three times loosen, loop, pull, pull, and loosen
        livedIs(y, 14, 0, 0, 0, 0, 0);
        Check.due("six PULLS", y.many(5), 12);
        CableDrawer z = Check.with(THREE, "loop 99; stop; end; pull a;");
        livedIs(z, 2, 0, 0, 0, 0, 0);
        CableDrawer w = Check.with(THREE, "loop 99; loop 99; loop 99; end; end; end;");
        livedIs(w, 300, 0, 0, 0, 0, 1);
        CableDrawer v = Check.with(THREE, "");
        livedIs(v, 0, 0, 0, 0, 0, 0);
        CableDrawer pulled = Check.with(THREE + "cross a b tight;", "pull a;");
        livedIs(pulled, 1, 0, 0, 0, 0, 0);
        Check.due("a PULL that does not come makes a KNOT", pulled.crossing(0, 2), 3);
    }

    private static void missed() {
        CableDrawer x = Check.with(THREE + "lead d long 9 clip; cross b c knot;", "cut a; cut a; take a; pull a; clip a; clip b; clip d; take d;");
        livedIs(x, 8, 6, 0, 0, 1, 0);
        Check.due("SECONDS", x.many(5), 0);
        Check.due("PENCE", x.many(6), 30);
    }

    /** How many STEPS there are with one within the when, less the when itself. */
    private static void holds(String drawer, String test, int want) {
        CableDrawer x = Check.with(drawer, "when " + test + "; loosen; end;");
        Check.due("when " + test, x.live(0) - 1, want);
    }

    private static void tests() {
        String two = THREE + "cross a b knot; cross a c;";
        holds(two, "lump < 2", 0);
        holds(two, "lump < 3", 1);
        holds(two, "lump = 2", 1);
        holds(two, "lump = 1", 0);
        holds(two, "lump > 1", 1);
        holds(two, "lump > 2", 0);
        holds(THREE, "lump = 1", 1);
        holds("", "lump = 0", 1);
        holds(two, "cross < 2", 0);
        holds(two, "cross < 3", 1);
        holds(two, "cross = 2", 1);
        holds(two, "cross = 3", 0);
        holds(two, "cross > 1", 1);
        holds(two, "cross > 2", 0);
        holds(two, "free a", 0);
        holds(THREE, "free a", 1);
        CableDrawer x = Check.with(THREE, "cut a; when free a; loosen; end; when free b; when cross > 0; loosen; end; pull c; end;");
        livedIs(x, 5, 0, 0, 0, 0, 0);
        Check.due("SECONDS", x.many(5), 2);
    }

    private static void takes() {
        // c alone is KNOT 15 with a, then a LOOSE one of STIFF 0: from END 1, 1 and 15
        CableDrawer x = Check.with("lead a long 9; lead b long 9; lead c long 9 stiff 7;"
            + "cross a c knot; cross b c; cross a b threaded;", "take c;");
        livedIs(x, 1, 0, 0, 0, 1, 0);
        Check.due("SECONDS", x.many(5), 16);
        Check.due("a b is left", x.many(1), 1);
        Check.due("as it was", x.crossing(0, 2), 1);
        Check.due("put back", x.many(3), 7);
        // LOOSENED 4, PULLED 2: what else there is is LOOSENED, too
        CableDrawer y = Check.with("lead a long 9; lead b long 9; lead c long 9; cross a b threaded; cross a b threaded;"
            + "cross b a threaded; cross b c tight;", "take a; take a; take a;");
        livedIs(y, 3, 0, 0, 0, 3, 0);
        Check.due("SECONDS", y.many(5), 6);
        Check.due("b c is left", y.many(1), 1);
        Check.due("THREADED now", y.crossing(0, 2), 1);
        Check.refused("a taking is no alone()", y, y.way(0), 8);
        // a is FOLLOWED twice from END 0, 15 and 15, and PULLED out of what is LOOSE; from END 1 it is 8 and 8 more
        CableDrawer z = Check.with("lead a long 9; lead b long 9; lead c long 9 stiff 7; cross a b knot; cross a b knot;"
            + "cross a c; cross a c; cross b c knot; cross b c knot;", "take a;");
        livedIs(z, 1, 0, 0, 0, 1, 0);
        Check.due("SECONDS", z.many(5), 32);
        Check.due("b c twice are left", z.many(1), 2);
        Check.due("KNOTS", z.inState(3), 2);
    }

    private static void draws() {
        // as DoneTest's open(0): 4 by a, less than 5; then 4,850 by 2: b. b draws 3,210 by 16, 10; c has RISK 0.
        CableDrawer x = Check.with(THREE, "open 1;");
        CableDrawer twice = Check.with(THREE, "open 2;");
        CableDrawer two = Check.with(THREE, "open 1; open 1;");
        livedIs(x, 1, 0, 1, 1, 0, 0);
        Check.due("a over b", x.crossing(0, 1), 1);
        Check.due("OPENINGS", x.many(7), 1);
        Check.due("two in one STEP", twice.live(0), 1);
        Check.due("OPENINGS", twice.many(7), 2);
        Check.due("lived OPENINGS", twice.lived(1), 2);
        Check.due("in two STEPS", two.live(0), 2);
        Check.due("the draws go on alike", two.many(1), twice.many(1));
        Check.due("came", twice.lived(2), twice.many(1));
        // the same draws told by hand: s of each, by 8
        int s = 0;
        int came = 0;
        for (int n = 0; n < 2; n++) {
            int[] risk = {5, 1, 0};
            for (int lead = 0; lead < 3; lead++) {
                s = (s * 2897 + 10529) % 65536;
                if (s / 8 % 16 < risk[lead]) {
                    s = (s * 2897 + 10529) % 65536;
                    came++;
                }
            }
        }
        Check.due("came", twice.many(1), came);
        CableDrawer seeded = Check.with(THREE, "open 1;");
        seeded.live(9999);
        CableDrawer opened = Check.with(THREE);
        opened.open(9999);
        Check.due("live and open by one seed", seeded.many(1), opened.many(1));
        CableDrawer again = Check.with(THREE, "open 9;");
        again.open(4321);
        again.live(7);
        CableDrawer once = Check.with(THREE, "open 9;");
        once.live(7);
        Check.due("draws begin anew with each seed", again.lived(2), once.lived(2));
    }

    private static void most300() {
        CableDrawer x = Check.with(THREE, "loop 99; loosen; loosen; loosen; end; pull a; pull a;");
        livedIs(x, 300, 0, 0, 0, 0, 0);
        CableDrawer y = Check.with(THREE, "loop 99; loosen; loosen; loosen; end; pull a; pull a; stop;");
        livedIs(y, 300, 0, 0, 0, 0, 1);
        Check.due("two PULLS", y.many(5), 4);
        CableDrawer z = Check.with(THREE, "loop 99; loosen; loosen; loosen; end; pull a; stop; pull a;");
        livedIs(z, 300, 0, 0, 0, 0, 0);
        CableDrawer w = Check.with(THREE, "loosen; loop 99; loosen; loosen; loosen; end; when cross = 9; pull a; end;");
        livedIs(w, 300, 0, 0, 0, 0, 0);
        Check.years(y, "stop;");
        livedIs(y, 1, 0, 0, 0, 0, 0);
        CableDrawer v = Check.with(THREE, "loosen; loop 99; loosen; loosen; loosen; end; when cross = 0; pull a; end;");
        livedIs(v, 300, 0, 0, 0, 0, 1);
        Check.due("no PULL", v.many(5), 0);
        CableDrawer u = Check.with(THREE, "loosen; loop 99; loosen; loosen; loosen; end; loop 99; end;");
        livedIs(u, 300, 0, 0, 0, 0, 0);
    }

    private static void refusals() {
        CableDrawer x = Check.with(THREE);
        Check.refused("no YEARS", x, x.live(0), 8);
        Check.refused("5 ahead of 8", x, x.live(-1), 5);
        Check.refused("10,000", x, x.live(10000), 5);
        Check.refused("no live()", x, x.lived(0), 8);
        Check.refused("5 ahead of 8", x, x.lived(5), 5);
        Check.refused("below 0", x, x.lived(-1), 5);
        Check.refused("no YEARS", x, x.mean(0, 1), 8);
        Check.refused("no YEARS", x, x.odds(0, 0, 1), 8);
        Check.years(x, "loosen;");
        Check.refused("seed", x, x.mean(-1, 1), 5);
        Check.refused("seed", x, x.mean(10000, 1), 5);
        Check.refused("none", x, x.mean(0, 0), 5);
        Check.refused("none, from 5 on", x, x.mean(5, 0), 5);
        Check.refused("seed -1 and four more", x, x.mean(-1, 5), 5);
        Check.refused("21", x, x.mean(0, 21), 5);
        Check.refused("the last above 9,999", x, x.mean(9981, 20), 5);
        Check.refused("far above", x, x.mean(Integer.MAX_VALUE, Integer.MAX_VALUE), 5);
        Check.due("the last is 9,999", x.mean(9980, 20), true);
        Check.refused("no such LEAD", x, x.odds(3, -1, 0), 2);
        Check.refused("no such LEAD", x, x.odds(-1, 0, 1), 2);
        Check.refused("seed", x, x.odds(0, -1, 1), 5);
        Check.refused("none", x, x.odds(0, 0, 0), 5);
        Check.refused("21", x, x.odds(0, 0, 21), 5);
        Check.refused("the last above 9,999", x, x.odds(0, 9999, 2), 5);
        Check.due("9,999", x.odds(0, 9999, 1), true);
        Check.refused("mean() and odds() are no live()", x, x.lived(0), 8);
        Check.due("9,999", x.live(9999), 1);
    }

    private static void livedKeeps() {
        CableDrawer x = Check.with(THREE, "cut a; cut a; open 3; take b;");
        Check.due("live(0)", x.live(0), 4);
        int came = x.lived(2);
        Check.refused("a live() that is refused", x, x.live(-1), 5);
        x.mean(5, 3);
        x.odds(1, 5, 3);
        Check.drawer(x, "");
        Check.due("whatever came since", x.lived(0), 1);
        Check.due("whatever came since", x.lived(1), 3);
        Check.due("whatever came since", x.lived(2), came);
        Check.due("whatever came since", x.lived(3), 1);
    }

    private static void mean() {
        CableDrawer x = Check.with(THREE + "cross a b knot;", "open 1; loosen;");
        x.pull(0);
        int sum = 0;
        for (int seed = 0; seed < 4; seed++) {
            CableDrawer y = Check.with(THREE + "cross a b knot;", "open 1; loosen;");
            y.live(seed);
            sum += y.many(5);
        }
        Check.due("mean", x.mean(0, 4), true);
        Check.due("spent by the YEARS alone", x.top() * 4, (long) sum * x.bottom());
        Check.fraction("by one seed", x, x.mean(0, 1), 2, 1);
        Check.due("all stays as it is", x.many(5), 2);
        Check.due("all stays as it is", x.many(1), 1);
        Check.due("all stays as it is", x.many(7), 0);
        CableDrawer none = Check.with(THREE, "");
        Check.fraction("0 is 0 by 1", none, none.mean(0, 20), 0, 1);
    }

    private static void odds() {
        CableDrawer x = Check.with(THREE, "open 1;");
        int free = 0;
        for (int seed = 10; seed < 30; seed++) {
            CableDrawer y = Check.with(THREE, "open 1;");
            y.live(seed);
            free += y.free(1);
        }
        Check.due("some are FREE, some are not", free > 0 && free < 20, true);
        Check.due("odds", x.odds(1, 10, 20), true);
        Check.due("how many of these", x.top() * 20, (long) free * x.bottom());
        Check.fraction("by seed 0 it is not", x, x.odds(1, 0, 1), 0, 1);
        Check.fraction("by seed 0 c is", x, x.odds(2, 0, 1), 1, 1);
        Check.due("all stays as it is", x.many(1), 0);
        x.cut(2);
        Check.fraction("a LEAD that was CUT is not FREE", x, x.odds(2, 0, 5), 0, 1);
        Check.due("status", x.status(), 0);
    }
}
