/** Promises 37 to 43, sentence by sentence: how long until one is free, or all. */
public final class EdgesOfHowLongTest {
    private static final int MIN = Integer.MIN_VALUE;
    private static final int MAX = Integer.MAX_VALUE;
    /** STIFF: a 0, b 4, c 1, d 9. */
    private static final String FOUR = "lead a long 9;lead b long 9 stiff 4;lead c long 9 stiff 1;lead d long 9 stiff 9;";

    public static void main(String[] args) {
        aloneWithout();
        aloneFollowed();
        alonePulled();
        aloneLoosened();
        aloneOfSeveral();
        aloneWith24();
        aloneRefusals();
        way();
        follows();
        followsRefusals();
        allWithout();
        allByOneAhead();
        allLoosened();
        allOfSeveral();
        allOfEight();
        order();
        loosens();
        soonest();
        Check.finish();
    }

    private static void aloneIs(String text, int lead, int seconds, int l, int i, int j, int pulled) {
        CableDrawer x = Check.with(text);
        Check.answers("alone(" + lead + ") of " + text, x, x.alone(lead), seconds);
        int[] due = {l, i, j, pulled};
        for (int what = 0; what < 4; what++) {
            Check.answers("way(" + what + ") of " + text, x, x.way(what), due[what]);
        }
    }

    private static void aloneWithout() {
        Check.sentence(Check.TERMS, "then PULLING it (2 SECONDS; not where none of its CROSSINGS is left)");
        aloneIs(FOUR, 0, 0, 0, 0, 0, 0);
        aloneIs(FOUR + "cross b c knot;", 0, 0, 0, 0, 0, 0);
        aloneIs("lead a long 9 clip;", 0, 0, 0, 0, 0, 0);
        // LOOSE ones alone: PULLED out of them, as long as that takes less
        aloneIs(FOUR + "cross a b;cross a b;", 0, 2, 0, 0, 0, 1);
        // FOLLOWED, none is left
        aloneIs(FOUR + "cross a c knot;cross b d knot;", 0, 16, 0, 0, 1, 0);
    }

    private static void aloneFollowed() {
        Check.sentence(Check.TERMS, "and then FOLLOWING it i times from END 0, j times from END 1, till what is left of its CROSSINGS is LOOSE");
        String knots = "cross b d knot;cross b d knot;cross b d knot;";
        // the KNOT nearest to END 0: 15 and 1, and PULLED 2
        aloneIs(FOUR + "cross a c knot;cross a d;cross a b;" + knots, 0, 18, 0, 1, 0, 1);
        // the KNOT nearest to END 1
        aloneIs(FOUR + "cross a d;cross a b;cross a c knot;" + knots, 0, 18, 0, 0, 1, 1);
        // one at each END: 16 and 16, and PULLED 2
        aloneIs(FOUR + "cross a c knot;cross a d;cross a d;cross a c knot;" + knots, 0, 34, 0, 1, 1, 1);
        // two at one END, one at the other
        aloneIs(FOUR + "cross a c knot;cross c a knot;cross a d;cross a d;cross a c knot;" + knots, 0, 50, 0, 2, 1, 1);
        aloneIs(FOUR + "cross a c knot;cross a d;cross a d;cross a c knot;cross c a knot;" + knots, 0, 50, 0, 1, 2, 1);
        // LOOSE ones of STIFF 1 ahead of the KNOT are FOLLOWED: 2, 16 and PULLED 2; from END 1 it would be 10, 10 and 16
        aloneIs(FOUR + "cross a c;cross a c knot;cross a d;cross a d;" + knots, 0, 20, 0, 2, 0, 1);
    }

    private static void alonePulled() {
        Check.sentence(Check.TERMS, "the fewest SECONDS");
        String knots = "cross b d knot;cross b d knot;cross b d knot;";
        // one LOOSE one by STIFF 0 is FOLLOWED, 1; by STIFF 1 that takes 2 as a PULL: the least j
        aloneIs(FOUR + "cross a c;" + knots, 2, 1, 0, 0, 1, 0);
        aloneIs(FOUR + "cross a c;" + knots, 0, 2, 0, 0, 0, 1);
        aloneIs(FOUR + "cross a b;" + knots, 0, 2, 0, 0, 0, 1);
        // two LOOSE ones by STIFF 0: both are 2 SECONDS as well
        aloneIs(FOUR + "cross a c;cross a c;" + knots, 2, 2, 0, 0, 0, 1);
    }

    private static void aloneLoosened() {
        Check.sentence(Check.TERMS, "ALONE: to get a LEAD free by LOOSENING l times (0 to 3) first");
        // one THREADED one by STIFF 4: 1 and then PULLED 2; or 1 and 1, and none is left
        aloneIs(FOUR + "cross a b threaded;", 0, 2, 2, 0, 0, 0);
        // one TIGHT one: three times 1; by STIFF 0 it is 1, 1 and FOLLOWED 1: the least l
        aloneIs(FOUR + "cross a b tight;", 0, 3, 3, 0, 0, 0);
        aloneIs(FOUR + "cross a b tight;", 1, 3, 2, 0, 1, 0);
        // four times LOOSENED is not: a KNOT is never LOOSE
        aloneIs(FOUR + "cross a d knot;", 0, 24, 0, 0, 1, 0);
        // each LOOSENING takes as many SECONDS as there are CROSSINGS then: 4 and 3, and PULLED 2; STIFF 9 is 15 and 15
        aloneIs(FOUR + "cross a d tight;cross d a tight;cross b c;cross b c knot;", 0, 9, 2, 0, 0, 1);
        // once: 3, PULLED 2
        aloneIs(FOUR + "cross a d threaded;cross d a threaded;cross a d threaded;", 0, 5, 1, 0, 0, 1);
        // LOOSENING and FOLLOWING: 3, then LOOSE and KNOT by STIFF 9: FOLLOWED 24 and PULLED 2; without it, THREADED 12 more
        aloneIs(FOUR + "cross a d threaded;cross a d threaded;cross a d knot;", 0, 29, 1, 0, 1, 1);
    }

    private static void aloneOfSeveral() {
        Check.sentence(Check.TERMS, "of several ways the least l, then the least i, then the least j.");
        // l: THREADED by STIFF 0: 1 and FOLLOWED 1 or 1 and 1
        aloneIs(FOUR + "cross b a threaded;", 1, 2, 1, 0, 1, 0);
        // l: two LOOSE ones: PULLED 2, or LOOSENED 2
        aloneIs(FOUR + "cross b d;cross b d;", 1, 2, 0, 0, 0, 1);
        // i: a KNOT alone is 15 from either END
        aloneIs(FOUR + "cross b a knot;", 1, 15, 0, 0, 1, 0);
        // i: two KNOTS: from END 1 both
        aloneIs(FOUR + "cross b a knot;cross b a knot;", 1, 30, 0, 0, 2, 0);
        // i: a KNOT between LOOSE ones of STIFF 1: 2, 16 and PULLED 2 from either END
        aloneIs(FOUR + "cross a c;cross a c knot;cross a c;cross b d knot;cross b d knot;", 0, 20, 0, 0, 2, 1);
        // i: KNOT, LOOSE by STIFF 1: PULLED 2 behind the KNOT from END 0, or FOLLOWED 2 from END 1
        aloneIs(FOUR + "cross a c knot;cross a c;cross b d knot;", 0, 18, 0, 0, 2, 0);
        // j: LOOSE by STIFF 1, KNOT: from END 1 PULLED 2 behind the KNOT, or FOLLOWED 2
        aloneIs(FOUR + "cross a c;cross a c knot;cross b d knot;", 0, 18, 0, 0, 1, 1);
    }

    private static void aloneWith24() {
        Check.sentence(37, "ALONE: SECONDS");
        StringBuilder text = new StringBuilder(FOUR);
        for (int n = 0; n < 24; n++) {
            text.append("cross a d knot;");
        }
        aloneIs(text.toString(), 0, 24 * 24, 0, 0, 24, 0);
        aloneIs(text.toString(), 3, 24 * 15, 0, 0, 24, 0);
        aloneIs(text.toString(), 1, 0, 0, 0, 0, 0);
        String loose = text.toString().replace(" knot", "");
        aloneIs(loose, 0, 2, 0, 0, 0, 1);
        String tight = text.toString().replace(" knot", " tight");
        // 24 and 24, and PULLED 2
        aloneIs(tight, 0, 50, 2, 0, 0, 1);
    }

    private static void aloneRefusals() {
        Check.sentence(37, "(2; 9)");
        for (int wrong : new int[] {-1, 5, MIN, MAX}) {
            Scene.refuses("alone(" + wrong + ")", Scene::full, x -> x.alone(wrong), 2);
        }
        Scene.refuses("alone of one that was CUT", Scene::full, x -> x.alone(Scene.CUT), 9);
        Scene.refuses("without LEADS", Scene::blank, x -> x.alone(0), 2);
        Scene.keeps("alone() of what it told latest", Scene::full, x -> x.alone(0));
    }

    private static void way() {
        Check.sentence(38, "By alone() latest with STATUS 0, what 0: l, 1: i, 2: j, 3: 1 if it is PULLED (5; 8: there was none).");
        CableDrawer x = Check.with(FOUR + "cross a c knot;cross a b;cross b d knot;");
        for (int what = 0; what <= 3; what++) {
            Check.refused("there was none", x, x.way(what), 8);
        }
        x.cut(3);
        Check.refused("not with 9", x, x.alone(3), 9);
        Check.refused("not with 2", x, x.alone(4), 2);
        x.soonest();
        x.all();
        x.fresh(0, 1);
        Check.refused("nor by other calls", x, x.way(0), 8);
        Check.answers("alone(0)", x, x.alone(0), 18);
        int[] due = {0, 1, 0, 1};
        for (int turn = 0; turn < 3; turn++) {
            for (int what = 0; what <= 3; what++) {
                Check.answers("way(" + what + ")", x, x.way(what), due[what]);
            }
            Check.refused("not with 2", x, x.alone(4), 2);
            if (turn == 0) {
                Check.refused("not with 9", x, x.alone(3), 9);
                x.soonest();
                x.all();
                x.fresh(2, 1);
                x.pull(0);
                Check.years(x, "take c;");
                x.live(0);
                x.mean(0, 1);
            } else {
                Check.drawer(x, "lead z long 9;");
            }
        }
        Check.answers("the latest", x, x.alone(0), 0);
        Check.answers("way(1) of it", x, x.way(1), 0);
        Check.answers("way(3) of it", x, x.way(3), 0);
        for (int wrong : new int[] {-1, 4, MIN, MAX}) {
            Scene.refuses("way(" + wrong + ")", Scene::full, y -> y.way(wrong), 5);
            Scene.refuses("5 ahead of 8: " + wrong, Scene::blank, y -> y.way(wrong), 5);
        }
        Scene.refuses("there was none", Scene::blank, y -> y.way(0), 8);
        Scene.keeps("way(3)", Scene::full, y -> y.way(3));
    }

    private static void follows() {
        Check.sentence(39, "SECONDS of FOLLOWING it i times from END 0, and j times from END 1, without LOOSENING");
        CableDrawer x = Check.with(FOUR + "cross a b;cross a c knot;cross b c;cross d a tight;cross a b threaded;");
        // along a: 1 and 4, 15 and 1, 6 and 9, 3 and 4
        int[] each = {5, 16, 15, 7};
        for (int i = 0; i <= 4; i++) {
            for (int j = 0; i + j <= 4; j++) {
                int due = 0;
                for (int n = 0; n < 4; n++) {
                    due += n < i || n >= 4 - j ? each[n] : 0;
                }
                Check.answers("follows(0, " + i + ", " + j + ")", x, x.follows(0, i, j), due);
            }
            Check.refused("one more than it has", x, x.follows(0, i, 5 - i), 5);
        }
        Check.answers("b by a, END 0", x, x.follows(1, 1, 0), 1);
        Check.answers("b by c and a", x, x.follows(1, 0, 2), 5);
        CableDrawer none = Check.with(FOUR);
        Check.answers("none of none", none, none.follows(0, 0, 0), 0);
        Check.refused("one of none", none, none.follows(0, 1, 0), 5);
        Check.refused("one of none", none, none.follows(0, 0, 1), 5);
        CableDrawer full = Scene.crossed();
        Check.answers("24 from END 0 are those from END 1", full, full.follows(0, 24, 0), full.follows(0, 0, 24));
        Check.refused("25", full, full.follows(0, 24, 1), 5);
    }

    private static void followsRefusals() {
        Check.sentence(39, "(2; 5: below 0, more than it has CROSSINGS; 9 ahead of 5)");
        for (int wrong : new int[] {-1, 5, MIN, MAX}) {
            Scene.refuses("follows(" + wrong + ", 0, 0)", Scene::full, x -> x.follows(wrong, 0, 0), 2);
            Scene.refuses("2 ahead of 5: " + wrong, Scene::full, x -> x.follows(wrong, -1, -1), 2);
        }
        for (int wrong : new int[] {-1, MIN}) {
            Scene.refuses("below 0, i: " + wrong, Scene::full, x -> x.follows(0, wrong, 0), 5);
            Scene.refuses("below 0, j: " + wrong, Scene::full, x -> x.follows(0, 0, wrong), 5);
            Scene.refuses("below 0, i, and j as much above: " + wrong, Scene::full, x -> x.follows(0, wrong, MAX), 5);
            Scene.refuses("below 0, j, and i as much above: " + wrong, Scene::full, x -> x.follows(0, MAX, wrong), 5);
            Scene.refuses("9 ahead of 5: " + wrong, Scene::full, x -> x.follows(Scene.CUT, wrong, 0), 9);
        }
        Scene.refuses("i and j below 0 both", Scene::full, x -> x.follows(0, -1, -1), 5);
        Scene.refuses("j below 0, with fewer left in all", Scene::full, x -> x.follows(0, 3, -1), 5);
        Scene.refuses("more than it has: i", Scene::full, x -> x.follows(0, 4, 0), 5);
        Scene.refuses("more than it has: j", Scene::full, x -> x.follows(0, 0, 4), 5);
        Scene.refuses("more than it has: both together", Scene::full, x -> x.follows(0, 2, 2), 5);
        Scene.refuses("far more, which together wrap around to less", Scene::full, x -> x.follows(0, MAX, MAX), 5);
        Scene.refuses("9 ahead of 5, more", Scene::full, x -> x.follows(Scene.CUT, 1, 1), 9);
        Scene.keeps("follows(0, 1, 1)", Scene::full, x -> x.follows(0, 1, 1));
    }

    private static void allIs(String text, int seconds, int l, int... order) {
        CableDrawer x = Check.with(text);
        Check.answers("all() of " + text, x, x.all(), seconds);
        Check.answers("loosens() of " + text, x, x.loosens(), l);
        for (int k = 0; k < order.length; k++) {
            Check.answers("order(" + k + ") of " + text, x, x.order(k), order[k]);
        }
        Check.refused("order(" + order.length + ") of " + text, x, x.order(order.length), 8);
    }

    private static void allWithout() {
        Check.sentence(40, "ALL: SECONDS.");
        Check.sentence(Check.TERMS, "of a LEAD without any nothing is to be done");
        allIs("", 0, 0);
        allIs("lead a long 9;", 0, 0, 0);
        allIs(FOUR, 0, 0, 0, 1, 2, 3);
        CableDrawer cut = Scene.allCut();
        Check.answers("none is IN", cut, cut.all(), 0);
        Check.answers("loosens()", cut, cut.loosens(), 0);
        Check.refused("order(0)", cut, cut.order(0), 8);
        CableDrawer x = Check.with(FOUR + "cross a c knot;");
        x.cut(1);
        Check.answers("all LEADS that are IN", x, x.all(), 15);
        Check.answers("order(0): c is FOLLOWED, ahead of a", x, x.order(0), 2);
        Check.answers("order(1)", x, x.order(1), 0);
        Check.answers("order(2)", x, x.order(2), 3);
        Check.refused("the one that was CUT is in no ORDER", x, x.order(3), 8);
    }

    private static void allByOneAhead() {
        Check.sentence(Check.TERMS, "each FOLLOWED and PULLED so (its CROSSINGS are gone then for the next ones;");
        // d is crossed by a, b and c: FOLLOWED from d 15, 19 and 16; by each of these 24; d must not be the last
        allIs(FOUR + "cross a d knot;cross b d knot;cross c d knot;", 50, 0, 3, 0, 1, 2);
        // a with b: 15 by b, 19 by a; b with c: 16 by b: all by b
        allIs(FOUR + "cross a b knot;cross b c knot;", 31, 0, 1, 0, 2, 3);
        // a knot of c and d is undone from d, 16; whoever comes ahead of d, c must not
        allIs(FOUR + "cross c d knot;", 16, 0, 0, 1, 3, 2);
    }

    private static void allLoosened() {
        Check.sentence(Check.TERMS, "ALL: LOOSENING l times first, then all LEADS that are IN, one after the other");
        // THREADED ones, three pairs: once LOOSENED 6, then PULLED 2, 2 and 2 at most
        String stiff = "lead a long 9 stiff 9;lead b long 9 stiff 9;lead c long 9 stiff 9;";
        String threaded = "cross a b threaded;cross a b threaded;cross b c threaded;cross b c threaded;";
        // 4, and PULLING b is 2; twice LOOSENED is 8
        allIs(stiff + threaded, 6, 1, 1, 0, 2);
        // 4, 4 and PULLED 2
        allIs(stiff + threaded.replace("threaded", "tight"), 10, 2, 1, 0, 2);
        // one each: 1, 1 and 1
        allIs(stiff + "cross a b tight;", 3, 3, 0, 1, 2);
        // a KNOT is not LOOSENED, and 24 by STIFF 9
        allIs(stiff + "cross a b knot;", 24, 0, 0, 1, 2);
    }

    private static void allOfSeveral() {
        Check.sentence(Check.TERMS, "the fewest SECONDS, of several the least l; ORDER: of several the first by numbers.");
        // one LOOSE one by STIFF 0: FOLLOWED 1, or LOOSENED 1
        allIs("lead a long 9;lead b long 9;cross a b;", 1, 0, 0, 1);
        // two: PULLED 2, FOLLOWED 2, LOOSENED 2
        allIs("lead a long 9;lead b long 9;cross a b;cross a b;", 2, 0, 0, 1);
        // THREADED by STIFF 0: FOLLOWED 3; LOOSENED and FOLLOWED 2; LOOSENED twice 2
        allIs("lead a long 9;lead b long 9;cross a b threaded;", 2, 1, 0, 1);
        // a LOOSE one and a KNOT by STIFF 1: 16 and PULLED 2; LOOSENED 2 and 16: the least l
        allIs("lead a long 9 stiff 1;lead b long 9 stiff 1;cross a b;cross a b knot;", 18, 0, 0, 1);
        // two pairs apart: every ORDER is as good, the first is by numbers
        allIs("lead a long 9;lead b long 9;lead c long 9;lead d long 9;cross a d knot;cross b c knot;", 30, 0, 0, 1, 2, 3);
        // of c and d only d ahead of c is good, a and b are as they are
        allIs("lead a long 9;lead b long 9;lead c long 9 stiff 0;lead d long 9 stiff 1;cross c d knot;cross a b knot;", 30, 0, 0, 1, 3, 2);
    }

    private static void allOfEight() {
        Check.sentence(40, "ALL: SECONDS.");
        StringBuilder text = new StringBuilder();
        for (int n = 0; n < 8; n++) {
            text.append("lead ").append((char) ('a' + n)).append(" long 9 stiff ").append(n).append(';');
        }
        for (int n = 1; n < 8; n++) {
            text.append("cross a ").append((char) ('a' + n)).append(" knot;");
        }
        // a, the one of STIFF 0, by each of the others is 15; a itself must come last
        allIs(text.toString(), 105, 0, 1, 2, 3, 4, 5, 6, 7, 0);
    }

    private static void order() {
        Check.sentence(41, "The k-th LEAD in the ORDER of ALL, by all() latest (8: no such).");
        CableDrawer x = Check.with(FOUR + "cross c d knot;");
        Check.refused("there was none", x, x.order(0), 8);
        x.all();
        int[] due = {0, 1, 3, 2};
        for (int turn = 0; turn < 2; turn++) {
            for (int k = 0; k < 4; k++) {
                Check.answers("order(" + k + ")", x, x.order(k), due[k]);
            }
            Check.refused("order(4)", x, x.order(4), 8);
            Check.refused("order(-1)", x, x.order(-1), 8);
            x.alone(3);
            x.soonest();
            x.cut(0);
            Check.drawer(x, "lead z long 9;");
        }
        Check.answers("the latest", x, x.all(), 0);
        Check.answers("order(0) of it", x, x.order(0), 0);
        Check.refused("order(1) of it", x, x.order(1), 8);
        for (int wrong : new int[] {-1, 4, 8, MIN, MAX}) {
            Scene.refuses("order(" + wrong + ")", Scene::full, y -> y.order(wrong), 8);
        }
        Scene.refuses("there was none", Scene::blank, y -> y.order(0), 8);
        Scene.keeps("order(0)", Scene::full, y -> y.order(0));
    }

    private static void loosens() {
        Check.sentence(42, "How often is LOOSENED first, by all() latest (8: there was none).");
        CableDrawer x = Check.with(FOUR + "cross a b tight;cross a c tight;cross a d tight;");
        Check.refused("there was none", x, x.loosens(), 8);
        x.alone(0);
        Check.refused("none by alone()", x, x.loosens(), 8);
        // 3, 3 and PULLED 2
        Check.answers("all()", x, x.all(), 8);
        Check.answers("loosens()", x, x.loosens(), 2);
        x.loosen();
        x.cut(0);
        Check.drawer(x, "");
        Check.answers("by all() latest", x, x.loosens(), 2);
        x.all();
        Check.answers("by all() latest, without LEADS", x, x.loosens(), 0);
        Scene.refuses("there was none", Scene::blank, CableDrawer::loosens, 8);
        Scene.keeps("loosens()", Scene::full, CableDrawer::loosens);
    }

    private static void soonest() {
        Check.sentence(43, "The LEAD that is soonest free ALONE, of several the first (8: none is IN).");
        CableDrawer x = Check.with(FOUR + "cross a b knot;cross c d knot;");
        // a 19, b 15, c 24, d 16
        Check.answers("b", x, x.soonest(), 1);
        x.cut(0);
        Check.answers("b is FREE", x, x.soonest(), 1);
        x.cut(1);
        Check.answers("d", x, x.soonest(), 3);
        x.cut(3);
        Check.answers("the only one", x, x.soonest(), 2);
        CableDrawer free = Check.with(FOUR + "cross a b;");
        Check.answers("of several the first: c and d are FREE", free, free.soonest(), 2);
        CableDrawer first = Check.with(FOUR);
        Check.answers("of all the first", first, first.soonest(), 0);
        Scene.refuses("none is IN", Scene::allCut, CableDrawer::soonest, 8);
        Scene.refuses("without LEADS", Scene::blank, CableDrawer::soonest, 8);
        Scene.keeps("soonest()", Scene::full, CableDrawer::soonest);
    }
}
