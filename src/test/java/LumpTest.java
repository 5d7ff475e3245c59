/** Promises 28 to 36: lump, lumps, comes, easy, free, inState, worse, worst, key. */
public final class LumpTest {
    /** a - b - c hang in a chain, d - e, f is crossed loosely with a and d, g is FREE, h has a CLIP. */
    private static final String TWO_LUMPS = "lead a long 9; lead b long 9; lead c long 9; lead d long 9; lead e long 9;"
        + "lead f long 9; lead g long 9; lead h long 9 clip;"
        + "cross b c knot; cross a b threaded; cross d e tight; cross a f; cross f d; cross c b;";

    public static void main(String[] args) {
        lump();
        lumps();
        comesEasyFree();
        inState();
        worse();
        worst();
        key();
        refusals();
        Check.finish();
    }

    private static void lump() {
        CableDrawer x = Check.with(TWO_LUMPS);
        int[] due = {7, 7, 7, 24, 24, 32, 64, 128};
        for (int lead = 0; lead < 8; lead++) {
            Check.due("lump(" + lead + ")", x.lump(lead), due[lead]);
        }
        x.cut(1);
        Check.due("without b", x.lump(0), 1);
        Check.due("without b", x.lump(2), 4);
        CableDrawer y = Check.with("lead a long 9; lead b long 9; lead c long 9; lead d long 9; lead e long 9; lead f long 9;"
            + "lead g long 9; lead h long 9;"
            + "cross a b knot; cross b c knot; cross c d knot; cross d e knot; cross e f knot; cross f g knot; cross g h knot;");
        Check.due("a chain along the row", y.lump(0), 255);
        Check.due("and against it", y.lump(7), 255);
    }

    private static void lumps() {
        CableDrawer x = Check.with(TWO_LUMPS);
        Check.due("LUMPS of two and more", x.lumps(0), 2);
        Check.due("the largest", x.lumps(1), 3);
        x.cut(1);
        Check.due("one is left", x.lumps(0), 1);
        Check.due("the largest", x.lumps(1), 2);
        x.cut(3);
        Check.due("none is left", x.lumps(0), 0);
        Check.due("1 is none", x.lumps(1), 1);
        for (int lead = 0; lead < 8; lead++) {
            x.cut(lead);
        }
        Check.due("without LEADS", x.lumps(1), 0);
        Check.due("without LEADS", x.lumps(0), 0);
        Check.refused("lumps(2)", x, x.lumps(2), 5);
        Check.refused("lumps(-1)", x, x.lumps(-1), 5);
    }

    private static void comesEasyFree() {
        CableDrawer x = Check.with(TWO_LUMPS);
        int[] comes = {0, 0, 0, 0, 0, 1, 1, 1};
        int[] free = {0, 0, 0, 0, 0, 0, 1, 1};
        for (int lead = 0; lead < 8; lead++) {
            Check.due("comes(" + lead + ")", x.comes(lead), comes[lead]);
            Check.due("free(" + lead + ")", x.free(lead), free[lead]);
        }
        Check.due("easy", x.easy(), 224);
        Check.due("the first, too", Check.with("lead a long 9; lead b long 9; cross a b;").easy(), 3);
        x.cut(6);
        Check.due("not IN, not FREE", x.free(6), 0);
        Check.due("status", x.status(), 0);
        Check.due("not IN, not easy", x.easy(), 160);
        x.cut(3);
        Check.due("e hangs with none now", x.easy(), 176);
        Check.due("and is FREE", x.free(4), 1);
        Check.due("f has a CROSSING with a", x.free(5), 0);
    }

    private static void inState() {
        CableDrawer x = Check.with(TWO_LUMPS);
        int[] due = {3, 1, 1, 1};
        for (int state = 0; state < 4; state++) {
            Check.due("inState(" + state + ")", x.inState(state), due[state]);
        }
        Check.refused("inState(4)", x, x.inState(4), 5);
        Check.refused("inState(-1)", x, x.inState(-1), 5);
    }

    private static void worse() {
        CableDrawer x = Check.with("lead a long 9; lead b long 9; lead c long 9; lead d long 9;"
            + "cross a b; cross a b threaded; cross a c threaded; cross b a tight; cross c a knot; cross b c tight; cross a d; cross b c;");
        int[] a = {-2, -2, 1, 1};
        int[] b = {-2, -1, -1, 2};
        int[] d = {-1, 0, 0, 0};
        for (int state = 0; state < 4; state++) {
            // b: THREADED to TIGHT, two TIGHT to KNOT, two LOOSE fall out
            Check.due("worse(0, " + state + ")", x.worse(0, state), a[state]);
            Check.due("status", x.status(), 0);
            Check.due("worse(1, " + state + ")", x.worse(1, state), b[state]);
            Check.due("d comes: worse(3, " + state + ")", x.worse(3, state), d[state]);
        }
        Check.due("nothing was done", x.many(1), 8);
        Check.due("nothing was spent", x.many(5), 0);
        Check.due("nothing became TIGHT", x.inState(2), 2);
        Check.refused("no such LEAD", x, x.worse(4, 9), 2);
        Check.refused("no such STATE", x, x.worse(0, 4), 5);
        Check.refused("no such STATE", x, x.worse(0, -1), 5);
        x.cut(0);
        Check.refused("not IN", x, x.worse(0, 0), 9);
        Check.refused("5 ahead of 9", x, x.worse(0, 4), 5);
    }

    private static void worst() {
        CableDrawer x = Check.with(TWO_LUMPS);
        Check.due("b has three", x.worst(), 1);
        x.follow(1, 0);
        Check.due("of several the first", x.worst(), 0);
        x.cut(0);
        Check.due("of several the first that is IN", x.worst(), 3);
        for (int lead = 0; lead < 7; lead++) {
            x.cut(lead);
        }
        Check.due("one without CROSSINGS", x.worst(), 7);
        x.cut(7);
        Check.refused("none is IN", x, x.worst(), 8);
        Check.refused("none is IN", x, x.key(), 8);
        CableDrawer none = new CableDrawer();
        Check.refused("no LEADS", none, none.worst(), 8);
        Check.refused("no LEADS", none, none.key(), 8);
    }

    private static void key() {
        CableDrawer x = Check.with("lead a long 9; lead b long 9; lead c long 9; lead d long 9; lead e long 9;"
            + "cross a b knot; cross b c knot; cross c d knot; cross d e knot;");
        Check.due("in the middle", x.key(), 2);
        CableDrawer y = Check.with("lead a long 9; lead b long 9; lead c long 9; lead d long 9;"
            + "cross a b knot; cross a c; cross c d knot;");
        Check.due("of several the first", y.key(), 0);
        CableDrawer z = Check.with("lead a long 9; lead b long 9; lead c long 9; cross b c tight;");
        Check.due("b leaves none that hang together", z.key(), 1);
        StringBuilder eight = new StringBuilder();
        for (char c = 'a'; c <= 'h'; c++) {
            eight.append("lead ").append(c).append(" long 9;");
            for (char b = 'a'; b < c && c <= 'e'; b++) {
                eight.append("cross ").append(b).append(' ').append(c).append(" knot;");
            }
        }
        eight.append("cross e f tight; cross d f tight; cross g f tight; cross g e tight; cross h g tight; cross a h tight;");
        Check.due("all of eight hang together", Check.with(eight.toString()).lumps(1), 8);
        Check.due("whichever is CUT, the seven do", Check.with(eight.toString()).key(), 0);
        z.cut(1);
        Check.due("of those that are IN", z.key(), 0);
        z.cut(0);
        Check.due("the last one", z.key(), 2);
        Check.due("nothing was done", z.many(3), 4);
    }

    private static void refusals() {
        CableDrawer x = Check.with(TWO_LUMPS);
        x.cut(0);
        Check.refused("lump: not IN", x, x.lump(0), 9);
        Check.refused("lump: no such LEAD", x, x.lump(8), 2);
        Check.refused("lump: no such LEAD", x, x.lump(-1), 2);
        Check.refused("comes: not IN", x, x.comes(0), 9);
        Check.refused("comes: no such LEAD", x, x.comes(8), 2);
        Check.refused("free: no such LEAD", x, x.free(8), 2);
        Check.refused("free: no such LEAD", x, x.free(-1), 2);
    }
}
