/** Promises 28 to 36, sentence by sentence: what hangs together. */
public final class EdgesOfHangingTest {
    private static final int MIN = Integer.MIN_VALUE;
    private static final int MAX = Integer.MAX_VALUE;
    private static final String TWO = "lead a long 9;lead b long 9;";
    private static final String[] STATES = {"", " threaded", " tight", " knot"};

    public static void main(String[] args) {
        notLoose();
        andSoOn();
        lump();
        lumps();
        lumpsOfEight();
        comes();
        easy();
        free();
        inState();
        worse();
        worseRefusals();
        worst();
        key();
        Check.finish();
    }

    private static String leads(int many) {
        return Check.leads(many, "long 9");
    }

    private static void notLoose() {
        Check.sentence(Check.TERMS, "Two LEADS HANG TOGETHER if a CROSSING of both is not LOOSE");
        for (int state = 0; state < 4; state++) {
            for (String pair : new String[] {"cross a b", "cross b a"}) {
                CableDrawer x = Check.with(TWO + pair + STATES[state] + ";");
                Check.answers("lump(0) with STATE " + state, x, x.lump(0), state == 0 ? 1 : 3);
                Check.answers("lump(1) with STATE " + state, x, x.lump(1), state == 0 ? 2 : 3);
                Check.answers("comes(0) with STATE " + state, x, x.comes(0), state == 0 ? 1 : 0);
            }
        }
        CableDrawer one = Check.with(TWO + "cross a b;cross b a;cross a b threaded;cross a b;");
        Check.answers("one of four is not LOOSE", one, one.lump(1), 3);
        CableDrawer none = Check.with(TWO);
        Check.answers("without a CROSSING", none, none.lump(1), 2);
        CableDrawer gone = Check.with(TWO + "lead c long 9;cross a c;cross a b knot;");
        gone.follow(1, 0);
        Check.answers("one that is gone holds none", gone, gone.lump(0), 1);
        Check.answers("one that is gone holds none", gone, gone.easy(), 7);
        gone.cross(2, 1, 1);
        gone.loosen();
        Check.answers("one that was LOOSENED holds none", gone, gone.lumps(1), 1);
    }

    private static void andSoOn() {
        Check.sentence(Check.TERMS, "those that do, and those that do with these, and so on, are one LUMP.");
        // the row goes against the chain, along it, and to and fro; the last is another chain, e c a h g b d f
        String[] rows = {"hg gf fe ed dc cb ba", "ab bc cd de ef fg gh", "ab gh bc fg cd ef de", "de cd ef bc fg ab gh", "ah bg gh ac bd ce df"};
        for (String row : rows) {
            StringBuilder text = new StringBuilder(leads(8));
            for (String pair : row.split(" ")) {
                text.append("cross ").append(pair.charAt(0)).append(' ').append(pair.charAt(1)).append(" tight;");
            }
            CableDrawer x = Check.with(text.toString());
            for (int lead = 0; lead < 8; lead++) {
                Check.answers("lump(" + lead + ") of " + row, x, x.lump(lead), 255);
            }
            Check.answers("lumps(0) of " + row, x, x.lumps(0), 1);
            Check.answers("lumps(1) of " + row, x, x.lumps(1), 8);
            x.cut(6);
            Check.answers("lumps(0) of " + row + " without g", x, x.lumps(0), row.startsWith("ah") ? 2 : 1);
            x.cut(3);
            Check.answers("lumps(0) of " + row + " without g and d", x, x.lumps(0), row.startsWith("ah") ? 1 : 2);
        }
    }

    private static void lump() {
        Check.sentence(28, "The LUMP of a LEAD: a set, it too (2; 9).");
        CableDrawer x = Check.with(leads(8) + "cross a h knot;cross b c;cross d e threaded;");
        int[] due = {129, 2, 4, 24, 24, 32, 64, 129};
        for (int lead = 0; lead < 8; lead++) {
            Check.answers("lump(" + lead + ")", x, x.lump(lead), due[lead]);
        }
        for (int wrong : new int[] {-1, 5, MIN, MAX}) {
            Scene.refuses("lump(" + wrong + ")", Scene::full, y -> y.lump(wrong), 2);
        }
        Scene.refuses("lump of one that was CUT", Scene::full, y -> y.lump(Scene.CUT), 9);
        Scene.keeps("lump(0)", Scene::full, y -> y.lump(0));
    }

    private static void lumps() {
        Check.sentence(29, "How many LUMPS of two LEADS and more there are (what 0), how many LEADS the largest has "
            + "(1; 1 is none; 0 without LEADS) (5).");
        CableDrawer none = Scene.blank();
        Check.answers("without LEADS, how many", none, none.lumps(0), 0);
        Check.answers("without LEADS, the largest", none, none.lumps(1), 0);
        CableDrawer one = Check.with("lead a long 9;");
        Check.answers("one LEAD, how many", one, one.lumps(0), 0);
        Check.answers("one LEAD: 1 is none", one, one.lumps(1), 1);
        CableDrawer two = Check.with(TWO + "cross a b;");
        Check.answers("two that are LOOSE, how many", two, two.lumps(0), 0);
        Check.answers("two that are LOOSE: 1 is none", two, two.lumps(1), 1);
        two.cross(0, 1, 1);
        Check.answers("two, how many", two, two.lumps(0), 1);
        Check.answers("two, the largest", two, two.lumps(1), 2);
        CableDrawer all = Scene.allCut();
        Check.answers("all were CUT, how many", all, all.lumps(0), 0);
        Check.answers("all were CUT, the largest", all, all.lumps(1), 0);
        for (int wrong : new int[] {-1, 2, MIN, MAX}) {
            Scene.refuses("lumps(" + wrong + ")", Scene::full, y -> y.lumps(wrong), 5);
        }
        Scene.keeps("lumps(0)", Scene::full, y -> y.lumps(0));
        Scene.keeps("lumps(1)", Scene::full, y -> y.lumps(1));
    }

    private static void lumpsOfEight() {
        Check.sentence(29, "How many LUMPS of two LEADS and more there are (what 0), how many LEADS the largest has");
        CableDrawer x = Check.with(leads(8) + "cross a e knot;cross b f knot;cross c g knot;cross d h knot;");
        Check.answers("four of two", x, x.lumps(0), 4);
        Check.answers("the largest", x, x.lumps(1), 2);
        x.cross(4, 5, 1);
        Check.answers("one of four, two of two", x, x.lumps(0), 3);
        Check.answers("the largest is the first", x, x.lumps(1), 4);
        x.cross(7, 6, 2);
        x.follow(0, 0);
        Check.answers("a alone, three, four", x, x.lumps(0), 2);
        Check.answers("the largest is the last", x, x.lumps(1), 4);
    }

    private static void comes() {
        Check.sentence(30, "1 if a LEAD would COME, else 0 (2; 9).");
        CableDrawer x = Check.with(leads(4) + "cross a b threaded;cross c a;cross c b;");
        int[] due = {0, 0, 1, 1};
        for (int lead = 0; lead < 4; lead++) {
            Check.answers("comes(" + lead + ")", x, x.comes(lead), due[lead]);
        }
        CableDrawer one = Check.with("lead a long 9 clip;");
        Check.answers("with a CLIP", one, one.comes(0), 1);
        for (int wrong : new int[] {-1, 5, MIN, MAX}) {
            Scene.refuses("comes(" + wrong + ")", Scene::full, y -> y.comes(wrong), 2);
        }
        Scene.refuses("comes of one that was CUT", Scene::full, y -> y.comes(Scene.CUT), 9);
        Scene.keeps("comes(0)", Scene::full, y -> y.comes(0));
    }

    private static void easy() {
        Check.sentence(31, "The set of LEADS that would COME.");
        CableDrawer none = Scene.blank();
        Check.answers("without LEADS", none, none.easy(), 0);
        CableDrawer x = Check.with(leads(8));
        Check.answers("all eight", x, x.easy(), 255);
        x.cross(0, 7, 1);
        Check.answers("without two", x, x.easy(), 126);
        x.cross(1, 2, 0);
        Check.answers("a LOOSE CROSSING is none", x, x.easy(), 126);
        x.cut(7);
        Check.answers("the other one comes then", x, x.easy(), 127);
        CableDrawer two = Check.with(TWO + "cross a b knot;");
        Check.answers("none would", two, two.easy(), 0);
        CableDrawer all = Scene.allCut();
        Check.answers("none is IN", all, all.easy(), 0);
        Scene.keeps("easy()", Scene::full, CableDrawer::easy);
    }

    private static void free() {
        Check.sentence(32, "1 if a LEAD is FREE, else 0 (2).");
        Check.sentence(Check.TERMS, "FREE is a LEAD that is IN and has no CROSSINGS.");
        CableDrawer x = Check.with(leads(3) + "lead d long 9 clip;cross a b;");
        int[] due = {0, 0, 1, 1};
        for (int lead = 0; lead < 4; lead++) {
            Check.answers("free(" + lead + ")", x, x.free(lead), due[lead]);
        }
        x.cut(2);
        x.cut(0);
        Check.answers("not IN", x, x.free(2), 0);
        Check.answers("not IN, and had CROSSINGS", x, x.free(0), 0);
        Check.answers("its CROSSINGS are gone", x, x.free(1), 1);
        for (int wrong : new int[] {-1, 5, MIN, MAX}) {
            Scene.refuses("free(" + wrong + ")", Scene::full, y -> y.free(wrong), 2);
        }
        Scene.keeps("free(0)", Scene::full, y -> y.free(0));
    }

    private static void inState() {
        Check.sentence(33, "How many CROSSINGS have a STATE (0 to 3) (5).");
        CableDrawer x = Check.with(TWO);
        int[] due = new int[4];
        for (int n = 0; n < 24; n++) {
            int state = n * n % 7 % 4;
            x.cross(n % 2, 1 - n % 2, state);
            due[state]++;
            for (int each = 0; each < 4; each++) {
                Check.answers("inState(" + each + ") of " + (n + 1), x, x.inState(each), due[each]);
            }
        }
        for (int wrong : new int[] {-1, 4, MIN, MAX}) {
            Scene.refuses("inState(" + wrong + ")", Scene::full, y -> y.inState(wrong), 5);
        }
        Scene.keeps("inState(3)", Scene::full, y -> y.inState(3));
    }

    private static void worseIs(CableDrawer x, int lead, int... want) {
        for (int state = 0; state < 4; state++) {
            Check.answers("worse(" + lead + ", " + state + ")", x, x.worse(lead, state), want[state]);
        }
    }

    private static void worse() {
        Check.sentence(34, "How many CROSSINGS would be of a STATE (0 to 3) more, if a LEAD were PULLED (below 0: fewer; STATUS tells NONE)");
        CableDrawer one = Check.with(TWO + "cross a b;");
        worseIs(one, 0, -1, 0, 0, 0);
        CableDrawer threaded = Check.with(TWO + "cross a b threaded;");
        worseIs(threaded, 1, 0, -1, 1, 0);
        CableDrawer tight = Check.with(TWO + "cross b a tight;");
        worseIs(tight, 1, 0, 0, -1, 1);
        CableDrawer knot = Check.with(TWO + "cross b a knot;");
        worseIs(knot, 0, 0, 0, 0, 0);
        CableDrawer both = Check.with(TWO + "cross b a threaded;cross b a tight;");
        worseIs(both, 0, 0, -1, 0, 1);
        CableDrawer x = Check.with(leads(4) + "cross a b;cross a b threaded;cross a b threaded;cross a b tight;cross c b;cross c b knot;cross d c;");
        worseIs(x, 0, -1, -2, 1, 1);
        worseIs(x, 2, -2, 0, 0, 0);
        worseIs(x, 3, -1, 0, 0, 0);
        Check.row(x, 0, 1, 0, 0, 1, 1, 0, 1, 1, 0, 1, 2, 2, 1, 0, 2, 1, 3, 3, 2, 0);
        CableDrawer free = Check.with(TWO);
        worseIs(free, 0, 0, 0, 0, 0);
        CableDrawer full = Check.with(TWO);
        for (int n = 0; n < 24; n++) {
            full.cross(0, 1, 0);
        }
        worseIs(full, 1, -24, 0, 0, 0);
    }

    private static void worseRefusals() {
        Check.sentence(34, "(2; 5; 9)");
        for (int wrong : new int[] {-1, 5, MIN, MAX}) {
            Scene.refuses("worse(" + wrong + ", 0)", Scene::full, x -> x.worse(wrong, 0), 2);
            Scene.refuses("2 ahead of 5: " + wrong, Scene::full, x -> x.worse(wrong, 4), 2);
        }
        for (int wrong : new int[] {-1, 4, MIN, MAX}) {
            Scene.refuses("worse(0, " + wrong + ")", Scene::full, x -> x.worse(0, wrong), 5);
            Scene.refuses("5 ahead of 9: " + wrong, Scene::full, x -> x.worse(Scene.CUT, wrong), 5);
        }
        Scene.refuses("worse of one that was CUT", Scene::full, x -> x.worse(Scene.CUT, 0), 9);
        Scene.keeps("worse(0, 1)", Scene::full, x -> x.worse(0, 1));
        Scene.keeps("worse of one that would COME", Scene::full, x -> x.worse(Scene.FREE, 0));
    }

    private static void worst() {
        Check.sentence(35, "The LEAD that is IN with the most CROSSINGS, of several the first (8: none is IN).");
        CableDrawer x = Check.with(leads(4));
        Check.answers("none has any: the first", x, x.worst(), 0);
        x.cross(3, 2, 0);
        Check.answers("two with one: the first of them", x, x.worst(), 2);
        x.cross(1, 3, 3);
        Check.answers("the last has two", x, x.worst(), 3);
        x.cross(1, 2, 0);
        Check.answers("three with two: the first of them", x, x.worst(), 1);
        x.cut(3);
        Check.answers("two with one are left", x, x.worst(), 1);
        x.cut(1);
        Check.answers("none has any: the first that is IN", x, x.worst(), 0);
        x.cut(0);
        Check.answers("the only one", x, x.worst(), 2);
        Scene.refuses("none is IN", Scene::allCut, CableDrawer::worst, 8);
        Scene.refuses("without LEADS", Scene::blank, CableDrawer::worst, 8);
        Scene.keeps("worst()", Scene::full, CableDrawer::worst);
    }

    private static void key() {
        Check.sentence(36, "The LEAD that is IN by whose CUT the largest LUMP that is left would have the fewest LEADS, of several the first (8).");
        CableDrawer one = Check.with("lead a long 9;");
        Check.answers("the only one", one, one.key(), 0);
        CableDrawer free = Check.with(leads(8));
        Check.answers("1 is left whichever it is: the first", free, free.key(), 0);
        CableDrawer two = Check.with(leads(3) + "cross b c threaded;");
        Check.answers("the first by which 1 is left", two, two.key(), 1);
        // a star with c in its middle
        CableDrawer star = Check.with(leads(5) + "cross a c knot;cross c b tight;cross d c threaded;cross c e knot;cross a b;");
        Check.answers("in the middle of a star", star, star.key(), 2);
        // a chain of eight: 4 are left by the fourth and the fifth
        CableDrawer chain = Check.with(leads(8) + "cross a b knot;cross b c knot;cross c d knot;cross d e knot;cross e f knot;"
            + "cross f g knot;cross g h knot;");
        Check.answers("the first of two in the middle", chain, chain.key(), 3);
        // two LUMPS of three: one of them stays whole
        CableDrawer lumps = Check.with(leads(7) + "cross b c knot;cross c d knot;cross e f knot;cross f g knot;");
        Check.answers("3 are left whichever it is", lumps, lumps.key(), 0);
        // a ring of four: 3 are left
        CableDrawer ring = Check.with(leads(5) + "cross b c knot;cross c d knot;cross d e knot;cross e b knot;");
        Check.answers("in a ring", ring, ring.key(), 1);
        star.cut(2);
        Check.answers("of those that are IN", star, star.key(), 0);
        star.cut(0);
        Check.answers("of those that are IN", star, star.key(), 1);
        Scene.refuses("none is IN", Scene::allCut, CableDrawer::key, 8);
        Scene.refuses("without LEADS", Scene::blank, CableDrawer::key, 8);
        Scene.keeps("key()", Scene::full, CableDrawer::key);
    }
}
