/** Promises 37 to 43: alone, way, follows, all, order, loosens, soonest. */
public final class HowLongTest {
    private static final String FOUR = "lead a long 9; lead b long 9 stiff 4; lead c long 9 stiff 1; lead d long 9;";

    public static void main(String[] args) {
        alone();
        aloneByLoosening();
        aloneOfSeveral();
        way();
        follows();
        all();
        allByLoosening();
        soonest();
        Check.finish();
    }

    private static void aloneIs(CableDrawer x, int lead, int seconds, int l, int i, int j, int pulled) {
        Check.due("alone(" + lead + ")", x.alone(lead), seconds);
        Check.due("status", x.status(), 0);
        int[] due = {l, i, j, pulled};
        for (int what = 0; what < 4; what++) {
            Check.due("way(" + what + ") of " + lead, x.way(what), due[what]);
        }
    }

    private static void alone() {
        CableDrawer x = Check.with(FOUR + "cross a b; cross a c knot; cross a b;");
        // LOOSENED once, 3, the KNOT and 1 alone are left
        aloneIs(x, 0, 19, 1, 0, 1, 0);
        // c: KNOT and 0
        aloneIs(x, 2, 15, 0, 0, 1, 0);
        // b: two LOOSE ones: PULLED, as FOLLOWING takes 1 and 1
        aloneIs(x, 1, 2, 0, 0, 0, 1);
        aloneIs(x, 3, 0, 0, 0, 0, 0);
        Check.due("nothing was done", x.many(1), 3);
        Check.due("nothing was spent", x.many(5), 0);
        // with more KNOTS elsewhere: a LOOSE one and 4, the KNOT and 1, from either END: 21, and PULLED
        CableDrawer w = Check.with(FOUR + "cross a b; cross a c knot; cross a b; cross c d knot; cross c d knot; cross c d knot;");
        aloneIs(w, 0, 22, 1, 0, 1, 0);
        w.cross(3, 2, 3);
        w.cross(3, 2, 3);
        aloneIs(w, 0, 23, 0, 0, 2, 1);
        // one LOOSE one with STIFF 0 is FOLLOWED sooner than PULLED, from END 1 as i is the least
        CableDrawer y = Check.with(FOUR + "cross a d;");
        aloneIs(y, 0, 1, 0, 0, 1, 0);
        // the same behind a KNOT
        CableDrawer z = Check.with(FOUR + "cross a c knot; cross a d;");
        aloneIs(z, 0, 17, 0, 0, 2, 0);
        Check.refused("no such LEAD", z, z.alone(4), 2);
        Check.refused("no such LEAD", z, z.alone(-1), 2);
        z.cut(0);
        Check.refused("not IN", z, z.alone(0), 9);
        Check.due("the way stays", z.way(2), 2);
    }

    private static void aloneByLoosening() {
        // each is THREADED: LOOSENING once takes 4, then PULLED 2; FOLLOWED they take 12
        CableDrawer x = Check.with(FOUR + "cross a d threaded; cross a d threaded; cross a d threaded; cross d a threaded;");
        aloneIs(x, 0, 6, 1, 0, 0, 1);
        // with TIGHT ones once more: 8, and 2
        CableDrawer y = Check.with(FOUR + "cross a d tight; cross a d tight; cross a d tight; cross d a tight;");
        aloneIs(y, 0, 10, 2, 0, 0, 1);
        // STIFF 4: FOLLOWED 10; twice LOOSENED 2 and PULLED 2; thrice LOOSENED 3
        CableDrawer z = Check.with(FOUR + "cross a b tight;");
        aloneIs(z, 0, 3, 3, 0, 0, 0);
        // a KNOT takes a second each time, too: twice LOOSENED, 2 and 2, PULLED 2
        CableDrawer v = Check.with(FOUR + "cross a b tight; cross c d knot;");
        aloneIs(v, 0, 6, 2, 0, 0, 1);
        // others' CROSSINGS take SECONDS as well: 6 each time, until they fall out
        CableDrawer w = Check.with(FOUR + "cross a b tight; cross c d knot; cross c d knot; cross c d knot; cross c d knot;");
        aloneIs(w, 0, 10, 0, 0, 1, 0);
    }

    private static void aloneOfSeveral() {
        // l 0: FOLLOWED 3. l 1: 1, and then FOLLOWED 1: 2. l 2: 2, and nothing is left: the least l
        CableDrawer x = Check.with(FOUR + "cross a d threaded;");
        aloneIs(x, 0, 2, 1, 0, 1, 0);
        // two LOOSE ones with STIFF 0: PULLED 2, FOLLOWED 2, LOOSENED 2: the least l, i, j
        CableDrawer y = Check.with(FOUR + "cross a d; cross d a;");
        aloneIs(y, 0, 2, 0, 0, 0, 1);
        // a KNOT between LOOSE ones with STIFF 0: 1, 15, and the last one by 1: from END 1 alone as i is the least
        CableDrawer z = Check.with(FOUR + "cross a d; cross a d knot; cross a d;");
        aloneIs(z, 0, 17, 0, 0, 3, 0);
    }

    private static void way() {
        CableDrawer x = Check.with(FOUR + "cross a c knot; cross a b;");
        Check.refused("there was none", x, x.way(0), 8);
        Check.refused("5 ahead of 8", x, x.way(4), 5);
        Check.refused("5", x, x.way(-1), 5);
        // from END 0 the KNOT and 1: 16, PULLED 2; from END 1 5 more than that
        aloneIs(x, 0, 18, 0, 1, 0, 1);
        x.soonest();
        x.fresh(2, 60);
        x.all();
        Check.refused("no alone()", x, x.alone(9), 2);
        Check.due("by alone() latest", x.way(1), 1);
        Check.drawer(x, "lead q long 9;");
        Check.due("by alone() latest, though the DRAWER is another one", x.way(1), 1);
        Check.refused("5", x, x.way(4), 5);
    }

    private static void follows() {
        CableDrawer x = Check.with(FOUR + "cross a b; cross a c knot; cross b c; cross d a tight;");
        Check.due("not at all", x.follows(0, 0, 0), 0);
        Check.due("status", x.status(), 0);
        Check.due("END 0", x.follows(0, 1, 0), 5);
        Check.due("END 1", x.follows(0, 0, 1), 6);
        Check.due("both", x.follows(0, 1, 1), 11);
        Check.due("all from END 0", x.follows(0, 3, 0), 27);
        Check.due("all from END 1", x.follows(0, 0, 3), 27);
        Check.due("c", x.follows(2, 0, 1), 5);
        Check.due("c by a, END 0", x.follows(2, 1, 0), 15);
        Check.refused("below 0", x, x.follows(0, -1, 0), 5);
        Check.refused("below 0", x, x.follows(0, 3, -1), 5);
        Check.refused("more than it has", x, x.follows(0, 2, 2), 5);
        Check.refused("far more", x, x.follows(0, Integer.MAX_VALUE, Integer.MAX_VALUE), 5);
        Check.refused("no such LEAD", x, x.follows(4, -1, 0), 2);
        x.cut(0);
        Check.refused("9 ahead of 5", x, x.follows(0, -1, 0), 9);
        Check.due("nothing was spent", x.many(5), 0);
    }

    private static void orderIs(CableDrawer x, int seconds, int loosens, int... order) {
        Check.due("all()", x.all(), seconds);
        Check.due("status", x.status(), 0);
        Check.due("loosens()", x.loosens(), loosens);
        for (int k = 0; k < order.length; k++) {
            Check.due("order(" + k + ")", x.order(k), order[k]);
        }
        Check.refused("no such", x, x.order(order.length), 8);
        Check.refused("no such", x, x.order(-1), 8);
    }

    private static void all() {
        CableDrawer none = new CableDrawer();
        Check.refused("there was none", none, none.order(0), 8);
        Check.refused("there was none", none, none.loosens(), 8);
        orderIs(none, 0, 0);
        // KNOTS alone: b is STIFF, so it is b itself that is FOLLOWED, ahead of a and c; d is FREE
        CableDrawer x = Check.with(FOUR + "cross a b knot; cross b c knot;");
        orderIs(x, 31, 0, 1, 0, 2, 3);
        // c by a takes 15, a by c 16
        CableDrawer y = Check.with(FOUR + "cross a c knot;");
        orderIs(y, 15, 0, 1, 2, 0, 3);
        x.cut(1);
        orderIs(x, 0, 0, 0, 2, 3);
        Check.refused("no such LEAD", x, x.alone(7), 2);
        Check.drawer(x, "lead q long 9;");
        Check.due("by all() latest, though the DRAWER is another one", x.order(2), 3);
        Check.due("by all() latest", x.loosens(), 0);
        Check.due("nothing was done", y.many(1), 1);
        Check.due("nothing was spent", y.many(5), 0);
    }

    private static void allByLoosening() {
        // each THREADED with STIFF 0: FOLLOWED 12; LOOSENED once 4, then PULLED 2
        CableDrawer x = Check.with("lead a long 9; lead b long 9; cross a b threaded; cross a b threaded; cross a b threaded;"
            + "cross b a threaded;");
        orderIs(x, 6, 1, 0, 1);
        // TIGHT: twice
        CableDrawer y = Check.with("lead a long 9; lead b long 9; cross a b tight; cross a b tight; cross a b tight;"
            + "cross b a tight;");
        orderIs(y, 10, 2, 0, 1);
        // one TIGHT one with STIFF 9: thrice, 3; FOLLOWED 15
        CableDrawer z = Check.with("lead a long 9 stiff 9; lead b long 9 stiff 9; cross a b tight;");
        orderIs(z, 3, 3, 0, 1);
        // one LOOSE one: LOOSENED once is 1, FOLLOWED is 1: the least l
        CableDrawer w = Check.with("lead a long 9; lead b long 9; cross a b;");
        orderIs(w, 1, 0, 0, 1);
        y.all();
        orderIs(w, 1, 0, 0, 1);
        // a LOOSE one and 1, a KNOT and 1: 18; LOOSENED once 2, and 16: the least l
        CableDrawer v = Check.with("lead a long 9 stiff 1; lead b long 9 stiff 1; cross a b; cross a b knot;");
        orderIs(v, 18, 0, 0, 1);
    }

    private static void soonest() {
        CableDrawer x = Check.with("lead a long 9; lead b long 9; lead c long 9 stiff 5; cross a b knot; cross b c tight;");
        // a 15; b 15 and 11, with LOOSENING 2 and 2 and 15; c 6, by LOOSENING twice 4 and 1
        Check.due("c is soonest", x.soonest(), 2);
        Check.due("status", x.status(), 0);
        x.cut(2);
        Check.due("of several the first", x.soonest(), 0);
        x.cut(0);
        Check.due("the last one", x.soonest(), 1);
        x.cut(1);
        Check.refused("none is IN", x, x.soonest(), 8);
    }
}
