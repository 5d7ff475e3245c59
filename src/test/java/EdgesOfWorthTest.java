/** Promises 44 to 50, sentence by sentence: what it is worth. */
public final class EdgesOfWorthTest {
    private static final int MIN = Integer.MIN_VALUE;
    private static final int MAX = Integer.MAX_VALUE;

    public static void main(String[] args) {
        fresh();
        freshRefusals();
        grows();
        clips();
        clipsNever();
        tries();
        triesRefusals();
        nextTry();
        boxes();
        boxesFewest();
        boxesRefusals();
        waste();
        wasteRefusals();
        Check.finish();
    }

    private static void fresh() {
        Check.sentence(44, "The FRACTION is NEW: p (0 to 999) PENCE a minute");
        Check.sentence(Check.TERMS, "NEW: whether it is cheaper to buy a new one: SECONDS ALONE times p PENCE a minute by 60, less COSTS.");
        CableDrawer x = Check.with("lead a long 9 costs 999;lead b long 9 stiff 9;cross a b knot;cross a b knot;");
        // 24 and 24
        Check.fraction("0 PENCE", x, x.fresh(0, 0), -999, 1);
        Check.fraction("999 PENCE: 47,952 by 60 less 999", x, x.fresh(0, 999), -999, 5);
        Check.fraction("1 PENNY: 48 by 60 less 999", x, x.fresh(0, 1), -4991, 5);
        Check.fraction("without COSTS: 30 by 60", x, x.fresh(1, 1), 1, 2);
        Check.fraction("without COSTS, 0 PENCE", x, x.fresh(1, 0), 0, 1);
        StringBuilder text = new StringBuilder("lead a long 9;lead b long 9 stiff 9;");
        for (int n = 0; n < 24; n++) {
            text.append("cross a b knot;");
        }
        CableDrawer most = Check.with(text.toString());
        Check.fraction("576 SECONDS at 999", most, most.fresh(0, 999), 47952, 5);
        CableDrawer free = Check.with("lead a long 9 costs 3;");
        Check.fraction("FREE: nothing less COSTS", free, free.fresh(0, 999), -3, 1);
    }

    private static void freshRefusals() {
        Check.sentence(44, "(2; 5; 9; 9 ahead of 5)");
        for (int wrong : new int[] {-1, 5, MIN, MAX}) {
            Scene.denies("fresh(" + wrong + ", 0)", Scene::full, x -> x.fresh(wrong, 0), 2);
            Scene.denies("2 ahead of 5: " + wrong, Scene::full, x -> x.fresh(wrong, -1), 2);
        }
        for (int wrong : new int[] {-1, 1000, MIN, MAX}) {
            Scene.denies("fresh(0, " + wrong + ")", Scene::full, x -> x.fresh(0, wrong), 5);
            Scene.denies("9 ahead of 5: " + wrong, Scene::full, x -> x.fresh(Scene.CUT, wrong), 9);
        }
        Scene.denies("fresh of one that was CUT", Scene::full, x -> x.fresh(Scene.CUT, 0), 9);
        Scene.keeps("fresh() of what it told latest", Scene::full, x -> x.fresh(0, 7) ? 1 : 0);
    }

    private static void grows() {
        Check.sentence(45, "The FRACTION is GROWS.");
        Check.sentence(Check.TERMS, "GROWS: the mean of how many CROSSINGS come at one OPENING (without minding how many there are): all RISKS by 16, of those LEADS that can be crossed with another one.");
        CableDrawer x = Check.with("lead a long 30;lead b long 30;lead c long 30 clip;lead d long 1;");
        Check.fraction("15, 15 and 0", x, x.grows(), 15, 8);
        x.unclip(2);
        Check.fraction("and 15", x, x.grows(), 45, 16);
        x.cut(0);
        Check.fraction("15, 15 and 0", x, x.grows(), 15, 8);
        x.clip(1);
        Check.fraction("15 and 0", x, x.grows(), 15, 16);
        x.cut(3);
        Check.fraction("one alone", x, x.grows(), 0, 1);
        x.cut(2);
        Check.fraction("one with a CLIP alone", x, x.grows(), 0, 1);
        x.cut(1);
        Check.fraction("none is IN", x, x.grows(), 0, 1);
        CableDrawer eight = Check.with(Check.leads(8, "long 30"));
        Check.fraction("eight times 15", eight, eight.grows(), 15, 2);
        for (int n = 0; n < 24; n++) {
            eight.cross(0, 1, 3);
        }
        Check.fraction("with 24 CROSSINGS, too", eight, eight.grows(), 15, 2);
        CableDrawer none = Check.with("lead a long 1;lead b long 30 stiff 9;lead c long 17 stiff 8;");
        Check.fraction("0, 6 and 0", none, none.grows(), 3, 8);
    }

    private static void clips() {
        Check.sentence(46, "WORTH of CLIPS");
        Check.sentence(Check.TERMS, "from how many OPENINGS on (1 to 999) GROWS times 5 SECONDS each are more than 12 SECONDS for each LEAD "
            + "that is IN without a CLIP.");
        // two of RISK 15: 30 by 16 times 5 is 9.375, and 24 by that 2.56
        CableDrawer most = Check.with("lead a long 30;lead b long 30;");
        Check.answers("the fewest", most, most.clips(), 3);
        // 1 by 16 times 5, and 96 SECONDS: 307.2
        CableDrawer least = Check.with(Check.leads(7, "long 1") + "lead z long 2;");
        Check.answers("the most", least, least.clips(), 308);
        // 12 by 16 times 5 is 3.75: 60 SECONDS are 16 of these, which is not more
        CableDrawer even = Check.with("lead a long 16;lead b long 8;lead c long 1;lead d long 1;lead e long 1;");
        Check.answers("even is not more", even, even.clips(), 17);
        CableDrawer some = Check.with("lead a long 16;lead b long 8;lead c long 1;lead d long 30 clip;lead e long 30;");
        some.cut(4);
        // those of a, b and c alone: 3.75, and 36 by that 9.6
        Check.answers("of those that are IN without a CLIP", some, some.clips(), 10);
        Scene.keeps("clips()", Scene::full, CableDrawer::clips);
    }

    private static void clipsNever() {
        Check.sentence(46, "(8: never, not by 999)");
        Scene.refuses("without LEADS", Scene::blank, CableDrawer::clips, 8);
        Scene.refuses("none is IN", Scene::allCut, CableDrawer::clips, 8);
        Scene.refuses("RISKS of 0", () -> Check.with("lead a long 1;lead b long 18 stiff 9;"), CableDrawer::clips, 8);
        Scene.refuses("one alone without a CLIP", () -> Check.with("lead a long 30;lead b long 30 clip;"), CableDrawer::clips, 8);
        Scene.refuses("all with CLIPS", () -> Check.with("lead a long 30 clip;lead b long 30 clip;"), CableDrawer::clips, 8);
    }

    private static void tries() {
        Check.sentence(47, "The FRACTION is TRIES for a LOOK");
        Check.sentence(Check.TERMS, "TRIES for a LOOK: its LEADS that are IN, by USED, falling, of several the first: the mean of how many must be tried "
            + "till the one that is wanted is found (each is wanted as often as it is USED; all 0: it can't be).");
        CableDrawer x = Check.with("lead a long 9 used 1;lead b long 9 used 16;lead c long 9;lead d long 9 used 16;lead e long 9 used 3;"
            + "look l e d c b a;look m c a;look n b;");
        // b 16 times 1, d 16 times 2, e 3 times 3, a 1 times 4, c 0 times 5: 61 by 36
        Check.fraction("all five", x, x.tries(0), 61, 36);
        Check.fraction("a ahead of c, which is never wanted", x, x.tries(1), 1, 1);
        Check.fraction("one alone", x, x.tries(2), 1, 1);
        x.cut(1);
        // d 16, e 3 times 2, a 1 times 3: 25 by 20
        Check.fraction("without b", x, x.tries(0), 5, 4);
        x.cut(3);
        // e 3, a 2: 5 by 4
        Check.fraction("without d", x, x.tries(0), 5, 4);
        x.cut(4);
        Check.fraction("a and c", x, x.tries(0), 1, 1);
        CableDrawer clip = Check.with("lead a long 9 used 1 clip;lead b long 9 used 1;look l a b;");
        Check.fraction("one with a CLIP is IN", clip, clip.tries(0), 3, 2);
    }

    private static void triesRefusals() {
        Check.sentence(47, "(2; 8: no LEAD of it is IN; 9)");
        for (int wrong : new int[] {-1, 3, MIN, MAX}) {
            Scene.denies("tries(" + wrong + ")", Scene::full, x -> x.tries(wrong), 2);
        }
        Scene.denies("without LOOKS", Scene::blank, x -> x.tries(0), 2);
        Scene.denies("8, though it is USED", Scene::full, x -> x.tries(1), 8);
        Scene.denies("8 ahead of 9", Scene::allCut, x -> x.tries(2), 8);
        Scene.denies("9: all USED 0", Scene::full, x -> x.tries(2), 9);
        CableDrawer x = Check.with("lead a long 9 used 1;lead b long 9;look l a b;");
        Check.fraction("one of two is USED", x, x.tries(0), 1, 1);
        x.cut(0);
        Check.refused("9: those that are IN are USED 0", x, x.tries(0), 9);
        x.cut(1);
        Check.refused("8", x, x.tries(0), 8);
    }

    private static void nextTry() {
        Check.sentence(48, "The k-th LEAD to be tried for a LOOK (2; 8: no such).");
        CableDrawer x = Check.with("lead a long 9 used 1;lead b long 9 used 16;lead c long 9;lead d long 9 used 16;lead e long 9 used 3;lead f long 9;"
            + "look l e d c b a f;");
        int[] due = {1, 3, 4, 0, 2, 5};
        for (int k = 0; k < due.length; k++) {
            Check.answers("nextTry(0, " + k + ")", x, x.nextTry(0, k), due[k]);
        }
        Check.refused("just behind the last", x, x.nextTry(0, 6), 8);
        x.cut(3);
        x.cut(0);
        int[] left = {1, 4, 2, 5};
        for (int k = 0; k < left.length; k++) {
            Check.answers("of those that are IN, nextTry(0, " + k + ")", x, x.nextTry(0, k), left[k]);
        }
        Check.refused("just behind the last", x, x.nextTry(0, 4), 8);
        for (int wrong : new int[] {-1, 3, MIN, MAX}) {
            Scene.refuses("nextTry(" + wrong + ", 0)", Scene::full, y -> y.nextTry(wrong, 0), 2);
            Scene.refuses("2 ahead of 8: " + wrong, Scene::full, y -> y.nextTry(wrong, -1), 2);
            Scene.refuses("nextTry(0, " + wrong + ")", Scene::full, y -> y.nextTry(0, wrong), 8);
        }
        Scene.refuses("no LEAD of it is IN", Scene::full, y -> y.nextTry(1, 0), 8);
        CableDrawer never = Check.with("lead a long 9;lead b long 9;look l b a;");
        Check.answers("never USED", never, never.nextTry(0, 0), 0);
        Check.answers("never USED", never, never.nextTry(0, 1), 1);
        Scene.keeps("nextTry(0, 0)", Scene::full, y -> y.nextTry(0, 0));
    }

    private static String longs(int... lengths) {
        StringBuilder text = new StringBuilder();
        for (int n = 0; n < lengths.length; n++) {
            text.append("lead ").append((char) ('a' + n)).append(" long ").append(lengths[n]).append(';');
        }
        return text.toString();
    }

    private static void fewest(int room, int want, int... lengths) {
        CableDrawer x = Check.with(longs(lengths));
        Check.answers("boxes(" + room + ") of " + longs(lengths), x, x.boxes(room), want);
    }

    private static void boxes() {
        Check.sentence(49, "BOXES (5; 9).");
        Check.sentence(Check.TERMS, "BOXES so long (1 to 99): the fewest for all LEADS that are IN, by LONG together");
        CableDrawer none = Scene.blank();
        for (int room : new int[] {1, 50, 99}) {
            Check.answers("without LEADS", none, none.boxes(room), 0);
        }
        CableDrawer all = Scene.allCut();
        Check.answers("none is IN", all, all.boxes(1), 0);
        fewest(1, 1, 1);
        fewest(1, 8, 1, 1, 1, 1, 1, 1, 1, 1);
        fewest(8, 1, 1, 1, 1, 1, 1, 1, 1, 1);
        fewest(7, 2, 1, 1, 1, 1, 1, 1, 1, 1);
        fewest(30, 1, 30);
        fewest(99, 1, 30, 30, 30, 9);
        fewest(98, 2, 30, 30, 30, 9);
        fewest(99, 2, 30, 30, 30, 10);
        fewest(99, 3, 30, 30, 30, 30, 30, 30, 30, 30);
        fewest(30, 8, 30, 30, 30, 30, 30, 30, 30, 30);
        CableDrawer cut = Check.with(longs(30, 5, 4) + "lead z long 5 clip;");
        cut.cut(0);
        Check.answers("of those that are IN, with a CLIP, too", cut, cut.boxes(9), 2);
        Check.answers("all together", cut, cut.boxes(14), 1);
        Check.answers("one more", cut, cut.boxes(13), 2);
    }

    private static void boxesFewest() {
        Check.sentence(Check.TERMS, "the fewest for all LEADS that are IN");
        // 7 3, 6 4, 5 5: by numbers they need more
        fewest(10, 3, 5, 3, 4, 7, 5, 6);
        // 4 3 3 and 4 3 3; the longest first is 4 4, 3 3 3 and 3
        fewest(10, 2, 4, 4, 3, 3, 3, 3);
        // 8 2, 6 2 2 and 5 5 are full; the fullest box first, 8 2, 6 2 2
        fewest(10, 3, 8, 6, 5, 5, 2, 2, 2);
        // 11 9, 10 10, 12 8
        fewest(20, 3, 12, 11, 10, 10, 9, 8);
        fewest(19, 4, 12, 11, 10, 10, 9, 8);
    }

    private static void boxesRefusals() {
        Check.sentence(49, "(5; 9)");
        for (int wrong : new int[] {-1, 0, 100, MIN, MAX}) {
            Scene.refuses("boxes(" + wrong + ")", Scene::full, x -> x.boxes(wrong), 5);
            Scene.refuses("boxes(" + wrong + ") without LEADS", Scene::blank, x -> x.boxes(wrong), 5);
        }
        Check.sentence(Check.TERMS, "a LEAD that is longer than a BOX: it can't be.");
        Scene.refuses("29 for 30", Scene::full, x -> x.boxes(29), 9);
        Scene.keeps("30 for 30", Scene::full, x -> x.boxes(30));
        CableDrawer x = Check.with(longs(5, 6, 5));
        Check.refused("5 for 6", x, x.boxes(5), 9);
        Check.answers("6 for 6", x, x.boxes(6), 3);
        x.cut(1);
        Check.answers("the one that is longer was CUT", x, x.boxes(5), 2);
        Check.refused("4 for 5", x, x.boxes(4), 9);
        for (int n = 0; n < 3; n++) {
            CableDrawer one = Check.with(longs(n == 0 ? 6 : 5, n == 1 ? 6 : 5, n == 2 ? 6 : 5));
            Check.refused("5 where LEAD " + n + " is 6", one, one.boxes(5), 9);
        }
    }

    private static void waste() {
        Check.sentence(50, "THROWN, p 0 to 999: a set (5).");
        Check.sentence(Check.TERMS, "THROWN: the set of LEADS that are IN with COSTS times USED by 16 less than p PENCE times the CROSSINGS it has.");
        // a is worth 15 and a sixteenth less, b 15, c 15 and a sixteenth more; each has one CROSSING with d, which is worth 999
        CableDrawer x = Check.with("lead a long 9 costs 239 used 1;lead b long 9 costs 15 used 16;lead c long 9 costs 241 used 1;"
            + "lead d long 9 costs 999 used 16;lead e long 9;cross a d;cross b d;cross d c;");
        Check.answers("14", x, x.waste(14), 0);
        Check.answers("15: a is less, b is even", x, x.waste(15), 1);
        Check.answers("16", x, x.waste(16), 7);
        Check.answers("332 times 3 is 996", x, x.waste(332), 7);
        Check.answers("333 times 3 is 999, even", x, x.waste(333), 7);
        Check.answers("334", x, x.waste(334), 15);
        Check.answers("999: one without CROSSINGS is never", x, x.waste(999), 15);
        Check.answers("0", x, x.waste(0), 0);
        x.cut(0);
        Check.answers("of those that are IN: d has two now, 998", x, x.waste(499), 6);
        Check.answers("1,000", x, x.waste(500), 14);
        CableDrawer zero = Check.with("lead a long 9 costs 999;lead b long 9 used 16;lead c long 9 costs 1 used 1;cross a b;cross a c;");
        Check.answers("worth nothing at 0", zero, zero.waste(0), 0);
        Check.answers("worth nothing, or a sixteenth, at 1", zero, zero.waste(1), 7);
        CableDrawer most = Check.with("lead a long 9 costs 999 used 16;lead b long 9 costs 999 used 16;");
        for (int n = 0; n < 24; n++) {
            most.cross(0, 1, 0);
        }
        Check.answers("41 times 24 is 984", most, most.waste(41), 0);
        Check.answers("42 times 24 is 1,008", most, most.waste(42), 3);
        Check.answers("999 times 24", most, most.waste(999), 3);
        CableDrawer none = Scene.blank();
        Check.answers("without LEADS", none, none.waste(999), 0);
    }

    private static void wasteRefusals() {
        Check.sentence(50, "p 0 to 999: a set (5)");
        for (int wrong : new int[] {-1, 1000, MIN, MAX}) {
            Scene.refuses("waste(" + wrong + ")", Scene::full, x -> x.waste(wrong), 5);
            Scene.refuses("waste(" + wrong + ") without LEADS", Scene::blank, x -> x.waste(wrong), 5);
        }
        Scene.keeps("waste(0)", Scene::full, x -> x.waste(0));
        Scene.keeps("waste(999)", Scene::full, x -> x.waste(999));
    }
}
