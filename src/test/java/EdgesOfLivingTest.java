/** What YEARS do, and promises 51 to 54, sentence by sentence: live, lived, mean, odds. */
public final class EdgesOfLivingTest {
    private static final int MIN = Integer.MIN_VALUE;
    private static final int MAX = Integer.MAX_VALUE;
    private static final String THREE = "lead a long 10 costs 30;lead b long 2 costs 4;lead c long 2 stiff 1;";

    public static void main(String[] args) {
        stepsOfEachKind();
        open();
        take();
        takeOfFree();
        missed();
        whenLump();
        whenCross();
        whenFree();
        whenIsSkipped();
        loop();
        stop();
        most300();
        comeToFromAhead();
        leftByThe300Alone();
        live();
        liveRefusals();
        lived();
        livedRefusals();
        seedsOfYears();
        mean();
        meanRefusals();
        odds();
        oddsRefusals();
        Check.finish();
    }

    /** live(0) of YEARS: its STEPS, then what lived() tells: MISSED, OPENINGS, what came, taken, left. */
    private static CableDrawer livedIs(String drawer, String years, int steps, int... lived) {
        CableDrawer x = Check.with(drawer, years);
        Check.answers("live(0) of " + years, x, x.live(0), steps);
        for (int what = 0; what < lived.length; what++) {
            Check.answers("lived(" + what + ") of " + years, x, x.lived(what), lived[what]);
        }
        return x;
    }

    private static void stepsOfEachKind() {
        Check.sentence(Check.TERMS, "pull, cut, clip as above.");
        String tangle = THREE + "cross a b threaded;cross a c;cross b a tight;";
        CableDrawer x = livedIs(tangle, "pull a;", 1, 0, 0, 0, 0, 0);
        Check.row(x, 0, 1, 2, 1, 0, 3);
        Check.answers("SECONDS", x, x.many(5), 2);
        x = livedIs(tangle, "pull c;", 1, 0, 0, 0, 0, 0);
        Check.row(x, 0, 1, 1, 1, 0, 2);
        x = livedIs(tangle, "cut b;", 1, 0, 0, 0, 0, 0);
        Check.row(x, 0, 2, 0);
        Check.answers("PENCE", x, x.many(6), 4);
        Check.answers("IN", x, x.many(3), 5);
        x = livedIs(tangle, "loosen;", 1, 0, 0, 0, 0, 0);
        Check.row(x, 0, 1, 0, 1, 0, 1);
        Check.answers("SECONDS", x, x.many(5), 3);
        x = livedIs(tangle, "cut b;cut c;clip a;", 3, 0, 0, 0, 0, 0);
        Check.answers("SECONDS", x, x.many(5), 12);
        Check.answers("with a CLIP", x, x.many(4), 1);
        Check.sentence(Check.TERMS, "LIVED by a seed (0 to 9,999): all is as it becomes by it, and stays so.");
        Check.answers("IN", x, x.many(3), 1);
        Check.answers("once more", x, x.live(0), 3);
        Check.answers("each is MISSED now", x, x.lived(0), 3);
    }

    private static void open() {
        Check.sentence(Check.TERMS, "open: so many times (1 to 99)");
        CableDrawer once = livedIs("lead a long 1;lead b long 1;", "open 1;", 1, 0, 1, 0, 0, 0);
        Check.answers("OPENINGS", once, once.many(7), 1);
        CableDrawer most = livedIs("lead a long 1;lead b long 1;", "open 99;", 1, 0, 99, 0, 0, 0);
        Check.answers("OPENINGS", most, most.many(7), 99);
        CableDrawer full = livedIs("lead a long 30;lead b long 30;", "open 99;open 99;", 2, 0, 198, 24, 0, 0);
        Check.answers("CROSSINGS", full, full.many(1), 24);
        Check.answers("no SECONDS", full, full.many(5), 0);
        Check.answers("OPENINGS of once more", full, full.live(9999), 2);
        Check.answers("none comes to 24", full, full.lived(2), 0);
        Check.answers("OPENINGS of both", full, full.many(7), 396);
        CableDrawer none = livedIs("", "open 7;", 1, 0, 7, 0, 0, 0);
        Check.answers("OPENINGS without LEADS", none, none.many(7), 7);
    }

    private static void take() {
        Check.sentence(Check.TERMS, "take: a LEAD is got free as ALONE tells, and put back");
        // four THREADED ones: LOOSENED once 5, PULLED 2; that LOOSENS what else there is
        CableDrawer x = livedIs(THREE + "cross a b threaded;cross b a threaded;cross a b threaded;cross a b threaded;cross b c tight;", "take a;",
            1, 0, 0, 0, 1, 0);
        Check.answers("SECONDS", x, x.many(5), 7);
        Check.row(x, 1, 2, 1);
        Check.answers("IN", x, x.many(3), 7);
        Check.answers("it is free", x, x.free(0), 1);
        // KNOTS: i from END 0, j from END 1, PULLED out of the LOOSE ones between them
        String knots = "cross b c knot;cross b c knot;cross b c knot;";
        CableDrawer y = livedIs(THREE + "cross a b knot;cross a b knot;cross a c;cross a c;cross a c;cross a b knot;" + knots, "take a;",
            1, 0, 0, 0, 1, 0);
        Check.answers("15, 15, 15 and 2", y, y.many(5), 47);
        Check.row(y, 1, 2, 3, 1, 2, 3, 1, 2, 3);
        // all FOLLOWED, none PULLED
        CableDrawer z = livedIs(THREE + "cross a b knot;" + knots, "take a;take b;", 2, 0, 0, 0, 2, 0);
        Check.answers("15, and three times 16", z, z.many(5), 63);
        // ALONE is asked where it stands: c is taken by 3 times 15, and then a is FREE
        CableDrawer w = Check.with(THREE + "cross a c knot;cross b c knot;");
        Check.answers("alone(2)", w, w.alone(2), 30);
        Check.years(w, "take c;take a;");
        w.live(0);
        Check.answers("SECONDS", w, w.many(5), 30);
    }

    private static void takeOfFree() {
        Check.sentence(52, "3: LEADS taken");
        CableDrawer x = livedIs(THREE + "lead d long 9 clip;", "take a;take a;take d;", 3, 0, 0, 0, 3, 0);
        Check.answers("FREE ones take no SECONDS", x, x.many(5), 0);
        Check.answers("with a CLIP", x, x.many(4), 8);
    }

    private static void missed() {
        Check.sentence(Check.TERMS, "What can't be is MISSED (a LEAD that is not IN; a clip for one with CROSSINGS, or with a CLIP).");
        String four = THREE + "lead d long 9 clip;cross b c knot;";
        CableDrawer x = livedIs(four, "cut a;take a;pull a;cut a;clip a;", 5, 4, 0, 0, 0, 0);
        Check.answers("SECONDS", x, x.many(5), 0);
        Check.answers("PENCE", x, x.many(6), 30);
        CableDrawer y = livedIs(four, "clip b;clip c;clip d;", 3, 3, 0, 0, 0, 0);
        Check.answers("SECONDS", y, y.many(5), 0);
        Check.answers("with a CLIP", y, y.many(4), 8);
        CableDrawer z = livedIs(four, "clip a;clip a;cut d;clip d;", 4, 2, 0, 0, 0, 0);
        Check.answers("SECONDS", z, z.many(5), 12);
        Check.answers("with a CLIP and IN", z, z.many(4), 1);
        // what can be, though nothing is to be done
        livedIs(four, "take a;pull a;loosen;open 1;cut d;", 5, 0, 1, 1, 1, 0);
    }

    /** Whether a TEST holds: the STEP behind it is come to. */
    private static void holds(String drawer, String test, boolean want) {
        CableDrawer x = Check.with(drawer, "when " + test + ";loosen;end;");
        Check.answers("when " + test + " for " + drawer, x, x.live(0), want ? 2 : 1);
    }

    private static void compares(String drawer, String what, int v, int least, int most) {
        for (int number = Math.max(least, v - 1); number <= Math.min(most, v + 1); number++) {
            holds(drawer, what + " < " + number, v < number);
            holds(drawer, what + " > " + number, v > number);
            holds(drawer, what + " = " + number, v == number);
        }
    }

    private static void whenLump() {
        Check.sentence(Check.TERMS, "when lump: how many LEADS the largest LUMP has (1 is none; 0 to 8)");
        compares("", "lump", 0, 0, 8);
        compares("lead a long 9;", "lump", 1, 0, 8);
        compares(THREE + "cross a b;", "lump", 1, 0, 8);
        StringBuilder text = new StringBuilder(Check.leads(8, "long 9"));
        for (char c = 'b'; c <= 'h'; c++) {
            text.append("cross ").append(c).append(' ').append((char) (c - 1)).append(" threaded;");
            compares(text.toString(), "lump", c - 'a' + 1, 0, 8);
        }
        CableDrawer cut = Check.with("lead a long 9;", "cut a;when lump = 0;loosen;end;");
        Check.answers("none is IN", cut, cut.live(0), 3);
    }

    private static void whenCross() {
        Check.sentence(Check.TERMS, "cross: how many CROSSINGS there are (0 to 24)");
        StringBuilder text = new StringBuilder(THREE);
        compares(text.toString(), "cross", 0, 0, 24);
        for (int n = 1; n <= 24; n++) {
            text.append("cross a b;");
            if (n < 3 || n > 22) {
                compares(text.toString(), "cross", n, 0, 24);
            }
        }
    }

    private static void whenFree() {
        Check.sentence(Check.TERMS, "free: that LEAD is FREE.");
        holds(THREE, "free c", true);
        holds(THREE + "cross a b;", "free c", true);
        holds(THREE + "cross a c;", "free c", false);
        holds(THREE + "cross c a;", "free c", false);
        holds("lead a long 9 clip;", "free a", true);
        CableDrawer cut = Check.with(THREE, "cut a;when free a;loosen;end;when free b;pull b;end;");
        Check.answers("one that was CUT is not", cut, cut.live(0), 4);
    }

    private static void whenIsSkipped() {
        Check.sentence(Check.TERMS, "or when TEST ; {STEP} end ;");
        livedIs(THREE, "when cross > 0;when cross = 0;cut a;end;cut b;loop 3;cut c;end;end;cut a;", 2, 0, 0, 0, 0, 0);
        livedIs(THREE, "when cross = 0;when cross > 0;cut a;end;cut b;loop 3;cut c;end;end;cut a;", 8, 2, 0, 0, 0, 0);
        livedIs(THREE, "when free a;end;when cross > 0;end;", 2, 0, 0, 0, 0, 0);
        // a TEST is asked where it stands, and anew each time
        CableDrawer x = livedIs(THREE, "loop 3;when free a;cut a;end;pull b;end;", 1 + 3 + 1 + 3, 0, 0, 0, 0, 0);
        Check.answers("three PULLS", x, x.many(5), 6);
    }

    private static void loop() {
        Check.sentence(Check.TERMS, "loop n (1 to 99): as often.");
        for (int n : new int[] {1, 2, 3, 98, 99}) {
            CableDrawer x = livedIs(THREE, "loop " + n + ";pull a;end;pull b;", n + 2, 0, 0, 0, 0, 0);
            Check.answers("PULLS", x, x.many(5), 2 * n + 2);
        }
        livedIs(THREE, "loop 99;end;", 1, 0, 0, 0, 0, 0);
        livedIs(THREE, "loop 2;loop 3;loop 4;pull a;end;end;end;", 1 + 2 + 6 + 24, 0, 0, 0, 0, 0);
        // two beside one another within a third, each as often every time
        CableDrawer x = livedIs(THREE, "loop 2;loop 3;pull a;end;loop 1;pull b;end;end;pull c;", 1 + 2 * (1 + 3 + 1 + 1) + 1, 0, 0, 0, 0, 0);
        Check.answers("PULLS", x, x.many(5), 2 * 9);
        Check.answers("and the next time, too", x, x.live(0), 14);
    }

    private static void stop() {
        Check.sentence(51, "how many STEPS were come to, MISSED ones, too");
        livedIs(THREE, "stop;", 1, 0, 0, 0, 0, 0);
        CableDrawer x = livedIs(THREE, "pull a;stop;pull a;", 2, 0, 0, 0, 0, 0);
        Check.answers("one PULL", x, x.many(5), 2);
        livedIs(THREE, "loop 99;when free a;pull a;stop;end;end;pull a;", 4, 0, 0, 0, 0, 0);
        livedIs(THREE, "when cross > 0;stop;end;pull a;", 2, 0, 0, 0, 0, 0);
    }

    private static void most300() {
        Check.sentence(Check.TERMS, "At most 300 STEPS");
        // 1 and 99 times 3, and as many more as stand behind
        String ahead = "loop 99;loosen;loosen;loosen;end;";
        livedIs(THREE, ahead + "pull a;", 299, 0, 0, 0, 0, 0);
        livedIs(THREE, ahead + "pull a;pull a;", 300, 0, 0, 0, 0, 0);
        CableDrawer x = livedIs(THREE, ahead + "pull a;pull a;pull a;", 300, 0, 0, 0, 0, 1);
        Check.answers("two PULLS", x, x.many(5), 4);
        x = livedIs(THREE, "loop 99;pull a;pull a;pull a;pull a;end;", 300, 0, 0, 0, 0, 1);
        Check.answers("299 PULLS", x, x.many(5), 598);
        Check.answers("each live() has 300 of its own", x, x.live(0), 300);
        // three loops within, the first CUT, and 294 more
        livedIs(THREE, "loop 99;loop 99;loop 99;cut a;end;end;end;", 300, 294, 0, 0, 0, 1);
        livedIs(THREE, "loop 99;loop 99;loop 99;end;end;end;", 300, 0, 0, 0, 0, 1);
    }

    private static void comeToFromAhead() {
        Check.sentence(Check.TERMS, "(when, loop count as one each time they are come to from ahead; end does not)");
        livedIs(THREE, "loop 5;end;", 1, 0, 0, 0, 0, 0);
        livedIs(THREE, "loop 5;loop 4;end;end;", 1 + 5, 0, 0, 0, 0, 0);
        livedIs(THREE, "loop 5;when free a;end;end;", 1 + 5, 0, 0, 0, 0, 0);
        livedIs(THREE, "loop 5;when cross > 0;end;end;", 1 + 5, 0, 0, 0, 0, 0);
        livedIs(THREE, "when free a;when free b;when free c;end;end;end;", 3, 0, 0, 0, 0, 0);
        livedIs(THREE, "loop 99;loop 99;end;loop 99;end;loop 99;end;end;loosen;loosen;", 300, 0, 0, 0, 0, 0);
    }

    private static void leftByThe300Alone() {
        Check.sentence(52, "4: 1 if a STEP was left to be done (by the 300 alone, not by stop), else 0");
        String ahead = "loop 99;loosen;loosen;loosen;end;loosen;";
        livedIs(THREE, ahead + "stop;loosen;", 300, 0, 0, 0, 0, 0);
        livedIs(THREE, ahead + "loosen;loosen;", 300, 0, 0, 0, 0, 1);
        livedIs(THREE, ahead + "loosen;stop;", 300, 0, 0, 0, 0, 1);
        livedIs(THREE, ahead + "when free a;end;", 300, 0, 0, 0, 0, 0);
        livedIs(THREE, ahead + "when free a;loosen;end;", 300, 0, 0, 0, 0, 1);
        livedIs(THREE, ahead + "when cross > 0;loosen;end;", 300, 0, 0, 0, 0, 0);
        livedIs(THREE, ahead + "loop 99;end;", 300, 0, 0, 0, 0, 0);
        livedIs(THREE, ahead + "loop 1;loosen;end;", 300, 0, 0, 0, 0, 1);
        // the 300th is the last of a loop: it is left where the loop goes on, and not where that is over
        livedIs(THREE, "loosen;loosen;loop 99;loosen;loosen;loosen;end;", 300, 0, 0, 0, 0, 0);
        livedIs(THREE, "loosen;loosen;loosen;loosen;loosen;loop 99;loosen;loosen;loosen;end;", 300, 0, 0, 0, 0, 1);
        livedIs(THREE, "loop 99;stop;end;", 2, 0, 0, 0, 0, 0);
        CableDrawer x = livedIs(THREE, ahead + "cut a;cut a;", 300, 0, 0, 0, 0, 1);
        Check.years(x, "loosen;");
        x.live(0);
        Check.answers("none was left of the next", x, x.lived(4), 0);
    }

    private static void live() {
        Check.sentence(51, "LIVED: how many STEPS were come to, MISSED ones, too (5; 8: no YEARS).");
        livedIs(THREE, "", 0, 0, 0, 0, 0, 0);
        livedIs(THREE, "loosen;", 1, 0, 0, 0, 0, 0);
        livedIs(THREE, "cut a;cut a;", 2, 1, 0, 0, 0, 0);
        CableDrawer x = Check.with(THREE, "open 1;");
        Check.answers("seed 0", x, x.live(0), 1);
        Check.answers("seed 9,999", x, x.live(9999), 1);
    }

    private static void liveRefusals() {
        Check.sentence(51, "(5; 8: no YEARS)");
        for (int wrong : new int[] {-1, 10000, MIN, MAX}) {
            Scene.refuses("live(" + wrong + ")", Scene::full, x -> x.live(wrong), 5);
            Scene.refuses("5 ahead of 8: " + wrong, Scene::blank, x -> x.live(wrong), 5);
        }
        Scene.refuses("no YEARS", Scene::blank, x -> x.live(0), 8);
        Scene.refuses("no YEARS of this DRAWER", () -> Check.with(THREE), x -> x.live(9999), 8);
    }

    private static void lived() {
        Check.sentence(52, "Of live() latest with STATUS 0, whatever came since, what 0: MISSED, 1: OPENINGS, 2: CROSSINGS that came by them, "
            + "3: LEADS taken");
        CableDrawer x = livedIs("lead a long 30;lead b long 30;", "open 3;take a;take b;cut a;cut a;open 2;", 6, 1, 5);
        int[] due = new int[5];
        for (int what = 0; what < 5; what++) {
            due[what] = x.lived(what);
        }
        Check.due("some came", due[2] > 0, true);
        Check.due("both were taken", due[3], 2);
        x.mean(5, 2);
        x.odds(1, 5, 2);
        Check.refused("a live() that is refused", x, x.live(-1), 5);
        x.open(5);
        x.mark();
        Check.drawer(x, "");
        Check.refused("a live() that is refused", x, x.live(0), 8);
        x.back();
        for (int what = 0; what < 5; what++) {
            Check.answers("whatever came since, lived(" + what + ")", x, x.lived(what), due[what]);
        }
        Check.years(x, "");
        x.live(0);
        for (int what = 0; what < 5; what++) {
            Check.answers("of the latest, lived(" + what + ")", x, x.lived(what), 0);
        }
        // what came by open() is not of it
        CableDrawer y = Check.with("lead a long 30;lead b long 30;", "loosen;");
        y.open(0);
        y.live(0);
        Check.answers("OPENINGS of its own", y, y.lived(1), 0);
        Check.answers("CROSSINGS that came by them", y, y.lived(2), 0);
    }

    private static void livedRefusals() {
        Check.sentence(52, "(5; 8: there was none)");
        for (int wrong : new int[] {-1, 5, MIN, MAX}) {
            Scene.refuses("lived(" + wrong + ")", Scene::full, x -> x.lived(wrong), 5);
            Scene.refuses("5 ahead of 8: " + wrong, Scene::blank, x -> x.lived(wrong), 5);
        }
        for (int what = 0; what < 5; what++) {
            int each = what;
            Scene.refuses("there was none", Scene::blank, x -> x.lived(each), 8);
            Scene.keeps("lived(" + what + ")", Scene::full, x -> x.lived(each));
        }
        CableDrawer x = Check.with(THREE, "loosen;");
        x.mean(0, 3);
        x.odds(0, 0, 3);
        Check.refused("mean(), odds() are no live()", x, x.lived(0), 8);
    }

    private static void seedsOfYears() {
        Check.sentence(Check.TERMS, "Draws: s, at first the seed, becomes what is left of s times 2,897 and 10,529 by 65,536");
        String drawer = "lead a long 14 ends 1 9;lead b long 9;lead c long 30 stiff 3;";
        int[] risk = {7, 4, 12};
        for (int seed : new int[] {0, 1, 77, 4999, 9999}) {
            CableDrawer x = Check.with(drawer, "open 2;open 1;");
            CableDrawer opened = Check.with(drawer);
            x.live(seed);
            long s = seed;
            int k = 0;
            for (int lead = 0; lead < 9; lead++) {
                s = (s * 2897 + 10529) % 65536;
                if (s / 8 % 16 < risk[lead % 3]) {
                    s = (s * 2897 + 10529) % 65536;
                    int other = (int) (s / 8 % 2);
                    other += other >= lead % 3 ? 1 : 0;
                    Check.answers("over, seed " + seed, x, x.crossing(k, 0), lead % 3);
                    Check.answers("the other one, seed " + seed, x, x.crossing(k, 1), other);
                    k++;
                }
            }
            Check.answers("the draws go on from OPENING to OPENING, seed " + seed, x, x.many(1), k);
            Check.answers("came, seed " + seed, x, x.lived(2), k);
            Check.answers("open(seed) is the first of them", opened, opened.open(seed), opened.many(1));
            for (int n = 0; n < opened.many(1); n++) {
                Check.due("the same", opened.crossing(n, 1), x.crossing(n, 1));
            }
        }
    }

    private static void mean() {
        Check.sentence(53, "The FRACTION is the mean of SECONDS spent by the YEARS, by so many seeds (1 to 20) from one on (all stays as it is)");
        String drawer = "lead a long 20;lead b long 20;lead c long 20 stiff 2;";
        String years = "open 3;loosen;take a;";
        int[] spent = new int[25];
        long sum = 0;
        for (int seed = 0; seed < 25; seed++) {
            CableDrawer x = Check.with(drawer, years);
            x.live(seed);
            spent[seed] = x.many(5);
        }
        CableDrawer y = Check.with(drawer, years);
        y.pull(0);
        y.pull(0);
        for (int many = 1; many <= 20; many++) {
            sum += spent[4 + many];
            Check.answers("mean(5, " + many + ")", y, y.mean(5, many));
            Check.due("its FRACTION", y.top() * many, sum * y.bottom());
        }
        Check.due("not all alike", spent[5] != spent[6] || spent[6] != spent[7], true);
        Check.answers("SECONDS are those ahead", y, y.many(5), 4);
        Check.answers("no CROSSINGS", y, y.many(1), 0);
        Check.answers("no OPENINGS", y, y.many(7), 0);
        CableDrawer even = Check.with(THREE, "pull a;");
        Check.fraction("2 each time", even, even.mean(0, 20), 2, 1);
        Check.fraction("the last seed", even, even.mean(9999, 1), 2, 1);
        Check.fraction("the last twenty", even, even.mean(9980, 20), 2, 1);
        CableDrawer none = Check.with("", "");
        Check.fraction("0 is 0 by 1", none, none.mean(0, 7), 0, 1);
        Scene.keeps("mean(0, 20)", Scene::full, x -> {
            x.mean(0, 20);
            return x.fresh(0, 7) ? 1 : 0;
        });
    }

    private static void meanRefusals() {
        Check.sentence(53, "(5: the last above 9,999, too; 8)");
        for (int wrong : new int[] {-1, 10000, MIN, MAX}) {
            Scene.denies("mean(" + wrong + ", 1)", Scene::full, x -> x.mean(wrong, 1), 5);
            Scene.denies("5 ahead of 8: " + wrong, Scene::blank, x -> x.mean(wrong, 1), 5);
        }
        for (int wrong : new int[] {-1, 0, 21, MIN, MAX}) {
            Scene.denies("mean(0, " + wrong + ")", Scene::full, x -> x.mean(0, wrong), 5);
            Scene.denies("mean(9, " + wrong + ")", Scene::full, x -> x.mean(9, wrong), 5);
        }
        Scene.denies("9,981 and 19 more", Scene::full, x -> x.mean(9981, 20), 5);
        Scene.denies("9,999 and one more", Scene::full, x -> x.mean(9999, 2), 5);
        Scene.denies("-1 and one more", Scene::full, x -> x.mean(-1, 2), 5);
        Scene.denies("the most and the most", Scene::full, x -> x.mean(MAX, MAX), 5);
        Scene.denies("no YEARS", Scene::blank, x -> x.mean(0, 1), 8);
        Scene.denies("no YEARS", () -> Check.with(THREE), x -> x.mean(9980, 20), 8);
    }

    private static void odds() {
        Check.sentence(54, "The FRACTION is behind how many of these a LEAD is FREE");
        String drawer = "lead a long 20;lead b long 10;lead c long 10 stiff 2;lead d long 9 clip;";
        String years = "open 1;";
        CableDrawer y = Check.with(drawer, years);
        for (int lead = 0; lead < 4; lead++) {
            int free = 0;
            for (int many = 1; many <= 20; many++) {
                CableDrawer x = Check.with(drawer, years);
                x.live(6 + many);
                free += x.free(lead);
                Check.answers("odds(" + lead + ", 7, " + many + ")", y, y.odds(lead, 7, many));
                Check.due("its FRACTION", y.top() * many, free * y.bottom());
            }
            Check.due("some, but not all", lead == 3 || free > 0 && free < 20, true);
        }
        Check.fraction("always", y, y.odds(3, 0, 20), 1, 1);
        Check.answers("all stays as it is", y, y.many(1), 0);
        Check.answers("all stays as it is", y, y.many(7), 0);
        y.cut(3);
        Check.fraction("one that was CUT never is", y, y.odds(3, 0, 20), 0, 1);
        CableDrawer cut = Check.with(THREE, "cut a;");
        Check.fraction("one that is CUT by them never is", cut, cut.odds(0, 9980, 20), 0, 1);
        Check.fraction("the others are", cut, cut.odds(1, 9999, 1), 1, 1);
        Scene.keeps("odds(0, 0, 20)", Scene::full, x -> {
            x.odds(0, 0, 20);
            return x.fresh(0, 7) ? 1 : 0;
        });
    }

    private static void oddsRefusals() {
        Check.sentence(54, "(2; 5; 8)");
        for (int wrong : new int[] {-1, 5, MIN, MAX}) {
            Scene.denies("odds(" + wrong + ", 0, 1)", Scene::full, x -> x.odds(wrong, 0, 1), 2);
            Scene.denies("2 ahead of 5: " + wrong, Scene::full, x -> x.odds(wrong, -1, 0), 2);
        }
        for (int wrong : new int[] {-1, 10000, MIN, MAX}) {
            Scene.denies("odds(0, " + wrong + ", 1)", Scene::full, x -> x.odds(0, wrong, 1), 5);
            Scene.denies("5 ahead of 8: " + wrong, () -> Check.with(THREE), x -> x.odds(0, wrong, 1), 5);
        }
        for (int wrong : new int[] {-1, 0, 21, MIN, MAX}) {
            Scene.denies("odds(0, 0, " + wrong + ")", Scene::full, x -> x.odds(0, 0, wrong), 5);
        }
        Scene.denies("9,981 and 19 more", Scene::full, x -> x.odds(0, 9981, 20), 5);
        Scene.denies("9,999 and one more", Scene::full, x -> x.odds(0, 9999, 2), 5);
        Scene.denies("one that was CUT, with a wrong number", Scene::full, x -> x.odds(Scene.CUT, 0, 0), 5);
        Scene.denies("no LEADS, no YEARS", Scene::blank, x -> x.odds(0, 0, 1), 2);
        Scene.denies("no YEARS", () -> Check.with(THREE), x -> x.odds(0, 0, 1), 8);
    }
}
