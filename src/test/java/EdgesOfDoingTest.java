import java.util.function.ToLongFunction;

/** Promises 20 to 27, sentence by sentence: what is done to a DRAWER. */
public final class EdgesOfDoingTest {
    private static final int MIN = Integer.MIN_VALUE;
    private static final int MAX = Integer.MAX_VALUE;
    private static final String TWO = "lead a long 9;lead b long 9;";
    private static final String[] STATES = {"", " threaded", " tight", " knot"};

    public static void main(String[] args) {
        followSeconds();
        followEnds();
        followRefusals();
        loosen();
        loosenAllStates();
        pullThatComes();
        pullThatDoesNot();
        pullRefusals();
        cut();
        cutRefusals();
        clip();
        unclip();
        cross();
        crossRefusals();
        openSeeds();
        openRisk();
        openOthers();
        openThreads();
        openNone();
        openFull();
        drawsWrapAround();
        Check.finish();
    }

    private static void followSeconds() {
        Check.sentence(Check.TERMS, "SECONDS: 1 if LOOSE, 3 THREADED, 6 TIGHT, 15 KNOT, and the STIFF of the other LEAD.");
        int[] bare = {1, 3, 6, 15};
        for (int state = 0; state < 4; state++) {
            for (int stiff = 0; stiff <= 9; stiff++) {
                for (int turned = 0; turned < 2; turned++) {
                    CableDrawer x = Check.with("lead a long 9 stiff 5;lead b long 9 stiff " + stiff + ";"
                        + (turned == 0 ? "cross a b" : "cross b a") + STATES[state] + ";");
                    Check.answers("follow of STATE " + state + ", STIFF " + stiff, x, x.follow(0, turned), bare[state] + stiff);
                    Check.answers("SECONDS spent", x, x.many(5), bare[state] + stiff);
                    Check.answers("it is gone", x, x.many(1), 0);
                }
            }
        }
        Check.sentence(20, "FOLLOW from an END (0, 1): SECONDS");
        CableDrawer x = Check.with("lead a long 9 stiff 5;lead b long 9 stiff 2;cross a b knot;cross a b knot;");
        Check.answers("of b the other is a", x, x.follow(1, 0), 20);
        Check.answers("of a the other is b", x, x.follow(0, 0), 17);
        Check.answers("SECONDS of both", x, x.many(5), 37);
    }

    private static void followEnds() {
        Check.sentence(Check.TERMS, "FOLLOW a LEAD from an END: its CROSSING nearest to that END is undone (it is gone)");
        String text = TWO + "lead c long 9;cross b c;cross a b;cross c a threaded;cross b c tight;cross b a knot;cross c b;";
        CableDrawer first = Check.with(text);
        Check.answers("END 0", first, first.follow(0, 0), 1);
        Check.row(first, 1, 2, 0, 2, 0, 1, 1, 2, 2, 1, 0, 3, 2, 1, 0);
        Check.answers("END 0 again", first, first.follow(0, 0), 3);
        Check.row(first, 1, 2, 0, 1, 2, 2, 1, 0, 3, 2, 1, 0);
        Check.answers("END 1, the only one that is left", first, first.follow(0, 1), 15);
        Check.row(first, 1, 2, 0, 1, 2, 2, 2, 1, 0);
        Check.refused("none is left", first, first.follow(0, 0), 8);
        CableDrawer last = Check.with(text);
        Check.answers("END 1", last, last.follow(0, 1), 15);
        Check.row(last, 1, 2, 0, 0, 1, 0, 2, 0, 1, 1, 2, 2, 2, 1, 0);
        Check.answers("END 1 again", last, last.follow(0, 1), 3);
        Check.answers("END 0, the only one that is left", last, last.follow(0, 0), 1);
        Check.row(last, 1, 2, 0, 1, 2, 2, 2, 1, 0);
        CableDrawer all = Scene.crossed();
        for (int n = 24; n > 0; n--) {
            Check.due("of " + n, all.many(1), n);
            Check.due("follow", all.follow(n % 2, n / 2 % 2) > 0, true);
        }
        Check.due("all 24", all.many(1), 0);
    }

    private static void followRefusals() {
        Check.sentence(20, "(2; 5; 9; 8: no CROSSING; 9 ahead of 8)");
        for (int wrong : new int[] {-1, 5, 8, MIN, MAX}) {
            Scene.refuses("no LEAD " + wrong, Scene::full, x -> x.follow(wrong, 0), 2);
            Scene.refuses("2 ahead of 5: " + wrong, Scene::full, x -> x.follow(wrong, 2), 2);
        }
        for (int wrong : new int[] {-1, 2, MIN, MAX}) {
            Scene.refuses("no END " + wrong, Scene::full, x -> x.follow(0, wrong), 5);
            Scene.refuses("5 ahead of 9: " + wrong, Scene::full, x -> x.follow(Scene.CUT, wrong), 5);
            Scene.refuses("5 ahead of 8: " + wrong, Scene::full, x -> x.follow(Scene.FREE, wrong), 5);
        }
        Scene.refuses("9, which has no CROSSING either", Scene::full, x -> x.follow(Scene.CUT, 0), 9);
        Scene.refuses("8 from END 0", Scene::full, x -> x.follow(Scene.FREE, 0), 8);
        Scene.refuses("8 from END 1", Scene::full, x -> x.follow(Scene.FREE, 1), 8);
        Scene.refuses("8 with a CLIP", Scene::full, x -> x.follow(Scene.CLIPPED, 0), 8);
    }

    private static void loosen() {
        Check.sentence(21, "LOOSEN: SECONDS.");
        Check.sentence(Check.TERMS, "LOOSEN: as many SECONDS as there are CROSSINGS: LOOSE ones fall out (they are gone), "
            + "THREADED ones are LOOSE then, TIGHT ones THREADED.");
        CableDrawer x = Check.with(TWO + "cross a b knot;cross a b tight;cross b a threaded;cross a b;cross b a knot;cross b a;");
        Check.answers("six", x, x.loosen(), 6);
        Check.row(x, 0, 1, 3, 0, 1, 1, 1, 0, 0, 1, 0, 3);
        Check.answers("four are left", x, x.loosen(), 4);
        Check.row(x, 0, 1, 3, 0, 1, 0, 1, 0, 3);
        Check.answers("three are left", x, x.loosen(), 3);
        Check.row(x, 0, 1, 3, 1, 0, 3);
        Check.answers("KNOTS stay", x, x.loosen(), 2);
        Check.row(x, 0, 1, 3, 1, 0, 3);
        Check.answers("SECONDS spent", x, x.many(5), 15);
        CableDrawer none = Check.with(TWO);
        Check.answers("none", none, none.loosen(), 0);
        Check.answers("SECONDS spent", none, none.many(5), 0);
        Scene.keeps("a new one", Scene::blank, CableDrawer::loosen);
    }

    private static void loosenAllStates() {
        Check.sentence(Check.TERMS, "LOOSE ones fall out (they are gone)");
        for (int state = 0; state < 4; state++) {
            CableDrawer x = Check.with(TWO);
            for (int n = 0; n < 24; n++) {
                x.cross(0, 1, state);
            }
            int turns = 0;
            for (int n = 24; n > 0 && turns < 4; turns++) {
                Check.answers("of 24", x, x.loosen(), n);
                n = x.many(1);
            }
            Check.due("how often STATE " + state + " is LOOSENED till it is gone", turns, state + 1);
            Check.due("how many are left", x.many(1), state == 3 ? 24 : 0);
        }
    }

    private static void pullThatComes() {
        Check.sentence(22, "PULL: how many LEADS are in its LUMP (1: it COMES)");
        Check.sentence(Check.TERMS, "PULL a LEAD: 2 SECONDS: if it HANGS TOGETHER with none it COMES: it is free, its CROSSINGS are gone");
        CableDrawer x = Check.with(TWO + "lead c long 9;cross a b;cross b c knot;cross c a;cross a c;");
        Check.answers("LOOSE ones alone", x, x.pull(0), 1);
        Check.row(x, 1, 2, 3);
        Check.answers("it is free", x, x.free(0), 1);
        Check.answers("2 SECONDS", x, x.many(5), 2);
        Check.answers("one that is free already", x, x.pull(0), 1);
        Check.answers("2 SECONDS more", x, x.many(5), 4);
        CableDrawer clip = Check.with(TWO + "lead c long 9 clip;cross a b knot;");
        Check.answers("one with a CLIP", clip, clip.pull(2), 1);
        Check.answers("its CLIP stays", clip, clip.many(4), 4);
        CableDrawer all = Check.with(TWO);
        for (int n = 0; n < 24; n++) {
            all.cross(0, 1, 0);
        }
        Check.answers("24 LOOSE ones", all, all.pull(1), 1);
        Check.answers("all are gone", all, all.many(1), 0);
        CableDrawer one = Check.with("lead a long 9;");
        Check.answers("the only one", one, one.pull(0), 1);
    }

    private static void pullThatDoesNot() {
        Check.sentence(Check.TERMS, "else on it THREADED ones become TIGHT, TIGHT ones KNOTS, LOOSE ones fall out.");
        CableDrawer x = Check.with(TWO + "lead c long 9;cross a b;cross b c;cross a c threaded;cross b a tight;cross c b threaded;cross a b knot;"
            + "cross c b tight;");
        Check.answers("all three", x, x.pull(0), 3);
        Check.row(x, 1, 2, 0, 0, 2, 2, 1, 0, 3, 2, 1, 1, 0, 1, 3, 2, 1, 2);
        Check.answers("again", x, x.pull(0), 3);
        Check.row(x, 1, 2, 0, 0, 2, 3, 1, 0, 3, 2, 1, 1, 0, 1, 3, 2, 1, 2);
        Check.answers("KNOTS stay KNOTS", x, x.pull(0), 3);
        Check.row(x, 1, 2, 0, 0, 2, 3, 1, 0, 3, 2, 1, 1, 0, 1, 3, 2, 1, 2);
        Check.answers("2 SECONDS each", x, x.many(5), 6);
        for (int state = 1; state <= 3; state++) {
            CableDrawer y = Check.with(TWO + "cross a b" + STATES[state] + ";cross a b;");
            Check.answers("one of STATE " + state + " holds it", y, y.pull(1), 2);
            Check.row(y, 0, 1, Math.min(3, state + 1));
        }
        Check.sentence(22, "how many LEADS are in its LUMP");
        StringBuilder text = new StringBuilder("lead a long 9;");
        for (int n = 1; n < 8; n++) {
            char c = (char) ('a' + n);
            text.append("lead ").append(c).append(" long 9;cross ").append((char) (c - 1)).append(' ').append(c).append(" threaded;");
            CableDrawer y = Check.with(text.toString());
            Check.answers("a chain of " + (n + 1), y, y.pull(0), n + 1);
        }
    }

    private static void refusesLeads(String told, ToLongFunction<CableDrawer> below, ToLongFunction<CableDrawer> above) {
        Scene.refuses(told + "(-1)", Scene::full, below, 2);
        Scene.refuses(told + "(5)", Scene::full, above, 2);
    }

    private static void pullRefusals() {
        Check.sentence(22, "(2; 9)");
        refusesLeads("pull", x -> x.pull(-1), x -> x.pull(5));
        refusesLeads("pull, far off", x -> x.pull(MIN), x -> x.pull(MAX));
        Scene.refuses("no LEADS", Scene::blank, x -> x.pull(0), 2);
        Scene.refuses("CUT", Scene::full, x -> x.pull(Scene.CUT), 9);
    }

    private static void cut() {
        Check.sentence(23, "CUT: how many CROSSINGS are gone");
        Check.sentence(Check.TERMS, "CUT: it is gone for good, its CROSSINGS, too, COSTS are spent.");
        CableDrawer x = Check.with("lead a long 9 costs 999;lead b long 9;lead c long 9 costs 1;lead d long 9 costs 7 clip;"
            + "cross a b;cross b c knot;cross c a tight;cross c b;cross b a threaded;");
        Check.answers("a", x, x.cut(0), 3);
        Check.row(x, 1, 2, 3, 2, 1, 0);
        Check.answers("COSTS", x, x.many(6), 999);
        Check.answers("no SECONDS", x, x.many(5), 0);
        Check.answers("IN", x, x.many(3), 14);
        Check.answers("b, without COSTS", x, x.cut(1), 2);
        Check.answers("COSTS", x, x.many(6), 999);
        Check.answers("c, without CROSSINGS", x, x.cut(2), 0);
        Check.answers("COSTS", x, x.many(6), 1000);
        Check.answers("d, with a CLIP", x, x.cut(3), 0);
        Check.answers("COSTS", x, x.many(6), 1007);
        Check.answers("none is IN", x, x.many(3), 0);
        Check.answers("LEADS are as many", x, x.many(0), 4);
        CableDrawer all = Scene.crossed();
        Check.answers("24", all, all.cut(1), 24);
        Check.answers("none is left", all, all.many(1), 0);
    }

    private static void cutRefusals() {
        Check.sentence(23, "(2; 9)");
        refusesLeads("cut", x -> x.cut(-1), x -> x.cut(5));
        refusesLeads("cut, far off", x -> x.cut(MIN), x -> x.cut(MAX));
        Scene.refuses("no LEADS", Scene::blank, x -> x.cut(0), 2);
        Scene.refuses("gone for good", Scene::full, x -> x.cut(Scene.CUT), 9);
    }

    private static void clip() {
        Check.sentence(24, "CLIP (2; 9: also with CROSSINGS, a CLIP).");
        Check.sentence(Check.TERMS, "CLIP, UNCLIP: a LEAD without CROSSINGS gets a CLIP (12 SECONDS), or has none.");
        CableDrawer x = Check.with(TWO + "lead c long 9 clip;cross a b;");
        Check.refused("with a CROSSING", x, x.clip(0), 9);
        Check.refused("with one under another", x, x.clip(1), 9);
        x.follow(0, 0);
        Check.answers("without CROSSINGS", x, x.clip(0));
        Check.answers("12 SECONDS", x, x.many(5), 13);
        Check.answers("those with a CLIP", x, x.many(4), 5);
        Check.refused("a CLIP", x, x.clip(0), 9);
        Check.refused("a CLIP from its text", x, x.clip(2), 9);
        Check.answers("no SECONDS more", x, x.many(5), 13);
        for (int wrong : new int[] {-1, 5, MIN, MAX}) {
            Scene.denies("clip(" + wrong + ")", Scene::full, y -> y.clip(wrong), 2);
        }
        Scene.denies("no LEADS", Scene::blank, y -> y.clip(0), 2);
        Scene.denies("CUT", Scene::full, y -> y.clip(Scene.CUT), 9);
        Scene.denies("CROSSINGS", Scene::full, y -> y.clip(0), 9);
        Scene.denies("a CLIP", Scene::full, y -> y.clip(Scene.CLIPPED), 9);
    }

    private static void unclip() {
        Check.sentence(25, "UNCLIP (2; 9: without a CLIP, too).");
        CableDrawer x = Check.with(TWO + "lead c long 9 clip;");
        Check.answers("unclip(2)", x, x.unclip(2));
        Check.answers("none with a CLIP", x, x.many(4), 0);
        Check.answers("no SECONDS", x, x.many(5), 0);
        Check.answers("it can be crossed then", x, x.cross(2, 0, 1), 1);
        Check.refused("without a CLIP now", x, x.unclip(2), 9);
        Check.answers("and has none with CROSSINGS", x, x.many(4), 0);
        x.pull(2);
        x.follow(2, 0);
        Check.answers("clip(2) again", x, x.clip(2));
        Check.answers("unclip(2) again", x, x.unclip(2));
        for (int wrong : new int[] {-1, 5, MIN, MAX}) {
            Scene.denies("unclip(" + wrong + ")", Scene::full, y -> y.unclip(wrong), 2);
        }
        Scene.denies("no LEADS", Scene::blank, y -> y.unclip(0), 2);
        Scene.denies("CUT", Scene::full, y -> y.unclip(Scene.CUT), 9);
        Scene.denies("without a CLIP", Scene::full, y -> y.unclip(Scene.FREE), 9);
        Scene.denies("with CROSSINGS", Scene::full, y -> y.unclip(0), 9);
        CableDrawer cut = Check.with("lead a long 9 clip;");
        cut.cut(0);
        Check.refused("CUT with a CLIP", cut, cut.unclip(0), 9);
    }

    private static void cross() {
        Check.sentence(26, "A CROSSING more behind the last one, a LEAD over another one: how many there are");
        CableDrawer x = Check.with(TWO + "lead c long 9;cross a b tight;");
        Check.answers("LOOSE", x, x.cross(2, 1, 0), 2);
        Check.answers("THREADED", x, x.cross(1, 2, 1), 3);
        Check.answers("TIGHT", x, x.cross(0, 2, 2), 4);
        Check.answers("KNOT", x, x.cross(1, 0, 3), 5);
        Check.row(x, 0, 1, 2, 2, 1, 0, 1, 2, 1, 0, 2, 2, 1, 0, 3);
        Check.answers("no SECONDS", x, x.many(5), 0);
        Check.answers("no OPENING", x, x.many(7), 0);
        for (int n = 6; n <= 24; n++) {
            Check.answers("the " + n + "th", x, x.cross(0, 1, 0), n);
        }
        Check.refused("a 25th", x, x.cross(0, 1, 0), 7);
        x.loosen();
        Check.answers("there is room again", x, x.cross(2, 0, 3), 5);
    }

    private static void crossRefusals() {
        Check.sentence(26, "(2; 5: one and itself, STATE 0 to 3; 7; 9: not IN, a CLIP; 9 behind 7)");
        for (int wrong : new int[] {-1, 5, MIN, MAX}) {
            Scene.refuses("2, over: " + wrong, Scene::full, x -> x.cross(wrong, 0, 0), 2);
            Scene.refuses("2, under: " + wrong, Scene::full, x -> x.cross(0, wrong, 0), 2);
            Scene.refuses("2 ahead of 5: " + wrong, Scene::full, x -> x.cross(wrong, wrong, -1), 2);
            Scene.refuses("2 ahead of 7: " + wrong, Scene::crossed, x -> x.cross(wrong, 0, 0), 2);
        }
        for (int wrong : new int[] {-1, 4, MIN, MAX}) {
            Scene.refuses("STATE " + wrong, Scene::full, x -> x.cross(0, 1, wrong), 5);
            Scene.refuses("5 ahead of 7: " + wrong, Scene::crossed, x -> x.cross(0, 1, wrong), 5);
            Scene.refuses("5 ahead of 9: " + wrong, Scene::full, x -> x.cross(0, Scene.CUT, wrong), 5);
        }
        Scene.refuses("one and itself", Scene::full, x -> x.cross(1, 1, 0), 5);
        Scene.refuses("one and itself, that is not IN", Scene::full, x -> x.cross(Scene.CUT, Scene.CUT, 0), 5);
        Scene.refuses("one and itself, with 24", Scene::crossed, x -> x.cross(0, 0, 0), 5);
        Scene.refuses("7", Scene::crossed, x -> x.cross(0, 1, 0), 7);
        Scene.refuses("9 behind 7, not IN", Scene::crossed, x -> x.cross(Scene.CUT, 0, 0), 7);
        Scene.refuses("9 behind 7, a CLIP", Scene::crossed, x -> x.cross(0, Scene.CLIPPED, 0), 7);
        Scene.refuses("9, not IN, over", Scene::full, x -> x.cross(Scene.CUT, 0, 0), 9);
        Scene.refuses("9, not IN, under", Scene::full, x -> x.cross(0, Scene.CUT, 0), 9);
        Scene.refuses("9, a CLIP, over", Scene::full, x -> x.cross(Scene.CLIPPED, 0, 0), 9);
        Scene.refuses("9, a CLIP, under", Scene::full, x -> x.cross(0, Scene.CLIPPED, 0), 9);
    }

    private static void openSeeds() {
        Check.sentence(27, "OPEN by a seed (0 to 9,999): how many CROSSINGS came (5).");
        CableDrawer x = Check.with(TWO);
        int came = 0;
        for (int seed : new int[] {0, 1, 9998, 9999}) {
            int ahead = x.many(1);
            int more = x.open(seed);
            Check.answers("open(" + seed + ") tells how many came", x, x.many(1) - ahead, more);
            came += more;
        }
        Check.due("some came", came > 0, true);
        Check.due("OPENINGS", x.many(7), 4);
        for (int wrong : new int[] {-1, 10000, MIN, MAX}) {
            Scene.refuses("open(" + wrong + ")", Scene::full, y -> y.open(wrong), 5);
            Scene.refuses("open(" + wrong + ")", Scene::blank, y -> y.open(wrong), 5);
        }
        CableDrawer one = Check.with(TWO);
        CableDrawer two = Check.with(TWO);
        one.open(5);
        one.open(9999);
        one.back();
        for (CableDrawer y : new CableDrawer[] {one, two}) {
            Check.drawer(y, TWO);
            y.open(77);
        }
        Check.due("a seed begins anew whatever was drawn ahead", one.many(1), two.many(1));
    }

    /** The n-th draw of a seed, 1 the first, by so many. */
    private static int draw(int seed, int n, int by) {
        long s = seed;
        for (int turn = 0; turn < n; turn++) {
            s = (s * 2897 + 10529) % 65536;
        }
        return (int) (s / 8 % by);
    }

    private static int seedWith(int first) {
        for (int seed = 0; seed <= 9999; seed++) {
            if (draw(seed, 1, 16) == first) {
                return seed;
            }
        }
        return -1;
    }

    private static void openRisk() {
        Check.sentence(Check.TERMS, "OPEN: for each LEAD that is IN without a CLIP, by numbers: a draw by 16 that is less than its RISK");
        for (int drawn = 0; drawn < 16; drawn++) {
            int seed = seedWith(drawn);
            for (int risk = 0; risk <= 15; risk++) {
                CableDrawer x = Check.with("lead a long " + Math.max(1, 2 * risk) + ";lead b long 1;");
                Check.answers("RISK " + risk + ", drawn " + drawn, x, x.open(seed), drawn < risk ? 1 : 0);
                Check.answers("CROSSINGS", x, x.many(1), drawn < risk ? 1 : 0);
            }
        }
        // with a CLIP, or CUT, no draw is made: the first draw is that of the LEAD behind them
        for (int drawn = 0; drawn < 16; drawn++) {
            CableDrawer x = Check.with("lead p long 30;lead q long 30 clip;lead a long 12;lead b long 1;");
            x.cut(0);
            Check.answers("behind them, drawn " + drawn, x, x.open(seedWith(drawn)), drawn < 6 ? 1 : 0);
        }
        // without RISK the draw is made: the second draw is that of the LEAD behind it
        for (int seed = 0; seed < 40; seed++) {
            CableDrawer x = Check.with("lead p long 1;lead a long 12;");
            Check.answers("by the second draw, seed " + seed, x, x.open(seed), draw(seed, 2, 16) < 6 ? 1 : 0);
        }
    }

    private static void openOthers() {
        Check.sentence(Check.TERMS, "it is crossed with another one that is IN and without a CLIP: "
            + "the k-th of these by numbers (0 the first), by a draw by how many there are");
        for (int others = 1; others <= 7; others++) {
            String text = "lead z long 30;" + Check.leads(others, "long 1");
            for (int seed = 0; seed < 60; seed++) {
                if (draw(seed, 1, 16) < 15) {
                    CableDrawer x = Check.with(text);
                    Check.answers("open(" + seed + ")", x, x.open(seed), 1);
                    Check.row(x, 0, 1 + draw(seed, 2, others), 0);
                }
            }
        }
        // in the middle: the k-th passes over it, over the one with a CLIP, and over the one that was CUT
        int[] these = {0, 3, 5};
        for (int seed = 0; seed < 40; seed++) {
            CableDrawer x = Check.with("lead a long 1;lead b long 9 clip;lead c long 30;lead d long 1;lead e long 1;lead f long 1;");
            x.cut(4);
            if (draw(seed, 2, 16) < 15) {
                Check.answers("open(" + seed + ")", x, x.open(seed), 1);
                Check.row(x, 2, these[draw(seed, 3, 3)], 0);
            }
        }
        Check.sentence(Check.TERMS, "the CROSSING comes behind the last one");
        CableDrawer x = Check.with("lead a long 30;lead b long 1;cross b a knot;");
        Check.answers("open(0)", x, x.open(0), 1);
        Check.row(x, 1, 0, 3, 0, 1, 0);
    }

    private static void openThreads() {
        Check.sentence(Check.TERMS, "THREADED, if one of its ENDS is smaller than the other LEAD's STIFF and 2 (but not larger than 9), else LOOSE.");
        for (int stiff = 0; stiff <= 9; stiff++) {
            for (int end = 1; end <= 9; end++) {
                int due = end < 9 && end < stiff + 2 ? 1 : 0;
                for (int turned = 0; turned < 2; turned++) {
                    // the ENDS of the other one, and STIFF of the one that crosses, don't matter
                    CableDrawer x = Check.with("lead a long 30 stiff 3 ends " + (turned == 0 ? end + " 9" : "9 " + end) + ";lead b long 1 stiff "
                        + stiff + " ends 1 1;");
                    Check.answers("open(0)", x, x.open(0), 1);
                    Check.answers("STATE with END " + end + " and STIFF " + stiff, x, x.crossing(0, 2), due);
                }
            }
        }
        CableDrawer both = Check.with("lead a long 30 ends 1 1;lead b long 1;");
        Check.answers("both ENDS", both, both.open(0), 1);
        Check.row(both, 0, 1, 1);
    }

    private static void openNone() {
        Check.sentence(Check.TERMS, "(none: nothing comes, no such draw)");
        CableDrawer one = Check.with("lead a long 30;");
        for (int seed = 0; seed < 20; seed++) {
            Check.answers("the only one", one, one.open(seed), 0);
        }
        Check.answers("OPENINGS all the same", one, one.many(7), 20);
        CableDrawer clips = Check.with("lead a long 30;lead b long 30 clip;lead c long 30 clip;");
        Check.answers("others with CLIPS", clips, clips.open(0), 0);
        CableDrawer none = Check.with("lead a long 30 clip;lead b long 30 clip;");
        Check.answers("all with CLIPS", none, none.open(0), 0);
        Check.answers("OPENINGS", none, none.many(7), 1);
        CableDrawer cut = Check.with("lead a long 30;lead b long 30;");
        cut.cut(1);
        Check.answers("the other one CUT", cut, cut.open(0), 0);
    }

    private static void openFull() {
        Check.sentence(Check.TERMS, "With 24 CROSSINGS none comes.");
        for (int many = 22; many <= 24; many++) {
            CableDrawer x = Check.with("lead a long 30;lead b long 30;lead c long 30;");
            for (int n = 0; n < many; n++) {
                x.cross(2, 0, 3);
            }
            // by seed 0 a, b and c draw 4, 10 and 8: each is crossed as long as there is room
            Check.answers("open(0) with " + many, x, x.open(0), 24 - many);
            Check.answers("CROSSINGS", x, x.many(1), 24);
            Check.answers("OPENINGS", x, x.many(7), 1);
            Check.answers("what was there stays", x, x.crossing(many - 1, 2), 3);
            Check.answers("the last one", x, x.crossing(23, 0), many == 24 ? 2 : many == 23 ? 0 : 1);
        }
    }

    private static void drawsWrapAround() {
        Check.sentence(Check.TERMS, "Draws: s, at first the seed, becomes what is left of s times 2,897 and 10,529 by 65,536; "
            + "the draw by n is the rest of s by 8, rounded down, by n.");
        // 0: 10,529 by 8 is 1,316, by 16 the rest is 4
        // 18: 62,675 by 8 is 7,834, by 16 the rest is 10
        // 19: 65,572 is 36 more than 65,536: by 8 it is 4
        // 9,999: 28,977,632 less 442 times 65,536 is 10,720: by 8 it is 1,340, by 16 the rest is 12
        int[][] due = {{0, 4}, {18, 10}, {19, 4}, {9999, 12}};
        for (int[] each : due) {
            for (int risk = each[1]; risk <= each[1] + 1; risk++) {
                CableDrawer x = Check.with("lead a long " + 2 * risk + ";lead b long 1;");
                Check.answers("seed " + each[0] + ", RISK " + risk, x, x.open(each[0]), risk - each[1]);
            }
        }
        // from seed 0 on s is 10,529, 38,802, 25,683 and so on; the second draw, by 2, is that of 38,802 by 8: 4,850
        CableDrawer x = Check.with("lead a long 30;lead b long 1;lead c long 1;");
        Check.answers("open(0)", x, x.open(0), 1);
        Check.row(x, 0, 1, 0);
    }
}
