import java.util.function.Consumer;

/** Promises 1 to 8, sentence by sentence: a new object, what each call tells of itself, TRAYS. */
public final class EdgesOfTraysTest {
    private static final int MIN = Integer.MIN_VALUE;
    private static final int MAX = Integer.MAX_VALUE;

    public static void main(String[] args) {
        newObject();
        emptyDrawer();
        status();
        zeroElse();
        fraction();
        trayNumbersAndSorts();
        trayLengths();
        trayIsLaidAnew();
        cutToItsSort();
        write();
        read();
        pourAsTheyWere();
        pourPlaces();
        pourRefusals();
        Check.finish();
    }

    private static void newObject() {
        Check.sentence(1, "TRAYS are MISSING, a DRAWER without LEADS, no YEARS, MARKS, an empty tape; STATUS 0, the FRACTION 0 by 1.");
        CableDrawer x = new CableDrawer();
        Check.due("STATUS", x.status(), 0);
        Check.due("FRACTION, its top", x.top(), 0);
        Check.due("FRACTION, its bottom", x.bottom(), 1);
        for (int tray = 0; tray <= 3; tray++) {
            Check.refused("TRAY " + tray + " is MISSING", x, x.read(tray, 0), 3);
        }
        for (int what = 0; what <= 7; what++) {
            Check.answers("many(" + what + ")", x, x.many(what), 0);
        }
        Check.refused("without LEADS", x, x.lead(0, 0), 2);
        Check.refused("without LOOKS", x, x.look(0), 2);
        Check.refused("without CROSSINGS", x, x.crossing(0, 0), 8);
        Check.refused("no YEARS", x, x.live(0), 8);
        Check.refused("no MARKS", x, x.back(), 8);
        Check.refused("an empty tape", x, x.drawer(1), 5);
        Check.refused("an empty tape", x, x.years(1), 5);
        Check.due("an empty tape", x.feed(0, 0, 0, 0, 0), 20);
        CableDrawer other = new CableDrawer();
        Check.refused("one object knows nothing of another", other, other.drawer(1), 5);
    }

    private static void emptyDrawer() {
        Check.sentence(1, "a DRAWER without LEADS");
        CableDrawer x = new CableDrawer();
        Check.answers("loosen()", x, x.loosen(), 0);
        Check.answers("open(9999)", x, x.open(9999), 0);
        Check.answers("lumps(0)", x, x.lumps(0), 0);
        Check.answers("lumps(1)", x, x.lumps(1), 0);
        Check.answers("easy()", x, x.easy(), 0);
        Check.answers("inState(0)", x, x.inState(0), 0);
        Check.refused("worst()", x, x.worst(), 8);
        Check.refused("key()", x, x.key(), 8);
        Check.refused("soonest()", x, x.soonest(), 8);
        Check.refused("clips()", x, x.clips(), 8);
        Check.answers("all()", x, x.all(), 0);
        Check.answers("loosens()", x, x.loosens(), 0);
        Check.refused("order(0)", x, x.order(0), 8);
        Check.fraction("grows()", x, x.grows(), 0, 1);
        Check.answers("boxes(1)", x, x.boxes(1), 0);
        Check.answers("waste(999)", x, x.waste(999), 0);
        Check.answers("mark()", x, x.mark(), 1);
        Check.answers("back()", x, x.back(), 0);
    }

    private static void status() {
        Check.sentence(2, "The STATUS of the latest call that has one.");
        CableDrawer x = Check.with("lead a long 12; lead b long 12;");
        Check.refused("a call with a STATUS", x, x.lead(2, 0), 2);
        x.top();
        Check.due("top() has none", x.status(), 2);
        x.bottom();
        Check.due("bottom() has none", x.status(), 2);
        x.fault(0);
        x.fault(9);
        Check.due("fault() has none", x.status(), 2);
        x.feed(0, 0, 0, 0, 0);
        Check.due("feed() has none", x.status(), 2);
        x.status();
        Check.due("status() has none", x.status(), 2);
        Check.answers("a call that answers", x, x.many(0), 2);
        CableDrawer full = Scene.fed();
        Check.refused("a call with a STATUS", full, full.order(9), 8);
        Check.due("a feed() that is too much", full.feed(0, 0, 0, 0, 0), -1);
        Check.due("feed() has none", full.status(), 8);
    }

    private static void tellsZero(String call, Consumer<CableDrawer> asked) {
        CableDrawer x = Scene.full();
        Check.refused("a refused one ahead of " + call, x, x.order(99), 8);
        asked.accept(x);
        Check.due("status behind " + call, x.status(), 0);
    }

    private static void zeroElse() {
        Check.sentence(Check.TERMS, "0 else.");
        tellsZero("tray", x -> x.tray(3, 0, 1));
        tellsZero("write", x -> x.write(0, 0, 1));
        tellsZero("read", x -> x.read(0, 0));
        tellsZero("pour", x -> x.pour(0, 0, 1, 0, 3));
        tellsZero("drawer", x -> x.drawer(20));
        tellsZero("years", x -> x.years(0));
        tellsZero("many", x -> x.many(0));
        tellsZero("lead", x -> x.lead(0, 0));
        tellsZero("crossing", x -> x.crossing(0, 0));
        tellsZero("along", x -> x.along(0, 0));
        tellsZero("look", x -> x.look(0));
        tellsZero("between", x -> x.between(0, 1));
        tellsZero("copyStates", x -> x.copyStates(0));
        tellsZero("follow", x -> x.follow(0, 0));
        tellsZero("loosen", CableDrawer::loosen);
        tellsZero("pull", x -> x.pull(0));
        tellsZero("cut", x -> x.cut(0));
        tellsZero("clip", x -> x.clip(Scene.FREE));
        tellsZero("unclip", x -> x.unclip(Scene.CLIPPED));
        tellsZero("cross", x -> x.cross(0, 1, 0));
        tellsZero("open", x -> x.open(0));
        tellsZero("lump", x -> x.lump(0));
        tellsZero("lumps", x -> x.lumps(0));
        tellsZero("comes", x -> x.comes(0));
        tellsZero("easy", CableDrawer::easy);
        tellsZero("free", x -> x.free(0));
        tellsZero("inState", x -> x.inState(0));
        tellsZero("worse", x -> x.worse(0, 1));
        tellsZero("worst", CableDrawer::worst);
        tellsZero("key", CableDrawer::key);
        tellsZero("alone", x -> x.alone(0));
        tellsZero("way", x -> x.way(0));
        tellsZero("follows", x -> x.follows(0, 0, 0));
        tellsZero("all", CableDrawer::all);
        tellsZero("order", x -> x.order(0));
        tellsZero("loosens", CableDrawer::loosens);
        tellsZero("soonest", CableDrawer::soonest);
        tellsZero("fresh", x -> x.fresh(0, 0));
        tellsZero("grows", CableDrawer::grows);
        tellsZero("clips", CableDrawer::clips);
        tellsZero("tries", x -> x.tries(0));
        tellsZero("nextTry", x -> x.nextTry(0, 0));
        tellsZero("boxes", x -> x.boxes(30));
        tellsZero("waste", x -> x.waste(0));
        tellsZero("live", x -> x.live(0));
        tellsZero("lived", x -> x.lived(0));
        tellsZero("mean", x -> x.mean(0, 1));
        tellsZero("odds", x -> x.odds(0, 0, 1));
        tellsZero("mark", CableDrawer::mark);
        tellsZero("back", CableDrawer::back);
    }

    private static void fraction() {
        // one KNOT: 15 SECONDS
        CableDrawer x = Check.with("lead a long 9 costs 4; lead b long 9; cross a b knot;");
        Check.sentence(3, "The top of the FRACTION told latest (below 0, too).");
        Check.fraction("15 by 4 less 4", x, x.fresh(0, 15), -1, 4);
        Check.fraction("0 less 4", x, x.fresh(0, 0), -4, 1);
        Check.refused("a refused call tells none", x, x.fresh(0, -1), 5);
        Check.due("told latest", x.top(), -4);
        Check.sentence(4, "Its bottom, above 0.");
        Check.fraction("15 times 7 by 60", x, x.fresh(1, 7), 7, 4);
        Check.refused("a refused call tells none", x, x.fresh(2, 9), 2);
        Check.due("its bottom", x.bottom(), 4);
        Check.fraction("above 0 with a top below 0", x, x.fresh(0, 14), -1, 2);
        Check.sentence(Check.TERMS, "FRACTIONS are told by top() and bottom() without a common divisor, the bottom above 0; 0 is 0 by 1");
        Check.fraction("15 times 16 by 60 less 4", x, x.fresh(0, 16), 0, 1);
        Check.fraction("15 times 0 by 60", x, x.fresh(1, 0), 0, 1);
        Check.fraction("15 times 20 by 60", x, x.fresh(1, 20), 5, 1);
        Check.fraction("15 times 999 by 60", x, x.fresh(1, 999), 999, 4);
    }

    private static void trayNumbersAndSorts() {
        Check.sentence(Check.TERMS, "TRAYS, 0 to 3, are MISSING at first, or rows of numbers of 8 bits (sort 0), 16 (1), 32 (2) or 64 (3)");
        CableDrawer x = new CableDrawer();
        for (int tray = 0; tray <= 3; tray++) {
            Check.refused("MISSING at first", x, x.read(tray, 0), 3);
            for (int sort = 0; sort <= 3; sort++) {
                Check.answers("TRAY " + tray + ", sort " + sort, x, x.tray(tray, sort, 1));
                Check.answers("its one number", x, x.read(tray, 0), 0);
            }
        }
        Check.sentence(Check.TERMS, "1 no such TRAY (or sort).");
        for (int wrong : new int[] {-1, 4, MIN, MAX}) {
            Scene.denies("TRAY " + wrong, Scene::full, y -> y.tray(wrong, 0, 1), 1);
            Scene.denies("sort " + wrong, Scene::full, y -> y.tray(0, wrong, 1), 1);
        }
    }

    private static void trayLengths() {
        Check.sentence(5, "A TRAY is a row of so many numbers (at most 60; 5), all 0 (1; 5; 6).");
        for (int many : new int[] {0, 1, 59, 60}) {
            CableDrawer x = new CableDrawer();
            Check.answers("tray(3, 3, " + many + ")", x, x.tray(3, 3, many));
            for (int place = 0; place < many; place++) {
                Check.answers("all 0: read(3, " + place + ")", x, x.read(3, place), 0);
            }
            Check.refused("just behind the last", x, x.read(3, many), 4);
        }
        Scene.denies("61", Scene::full, x -> x.tray(0, 0, 61), 5);
        Scene.denies("the most", Scene::full, x -> x.tray(0, 0, MAX), 5);
        Scene.denies("1 ahead of 5", Scene::full, x -> x.tray(4, 0, 61), 1);
        Scene.denies("1 ahead of 5, by the sort", Scene::full, x -> x.tray(0, 4, 61), 1);
        Scene.denies("1 ahead of 6", Scene::full, x -> x.tray(-1, 0, -1), 1);
        Check.sentence(Check.TERMS, "6 below 0 (a TRAY's length).");
        Scene.denies("-1", Scene::full, x -> x.tray(0, 0, -1), 6);
        Scene.denies("the least", Scene::full, x -> x.tray(0, 0, MIN), 6);
    }

    private static void trayIsLaidAnew() {
        Check.sentence(5, "all 0");
        CableDrawer x = new CableDrawer();
        x.tray(0, 0, 3);
        x.tray(1, 0, 3);
        for (int place = 0; place < 3; place++) {
            x.write(0, place, 7);
            x.write(1, place, 8);
        }
        Check.answers("laid anew, of another sort", x, x.tray(0, 1, 2));
        Check.answers("all 0 again", x, x.read(0, 0), 0);
        Check.answers("all 0 again", x, x.read(0, 1), 0);
        Check.refused("as many as it has now", x, x.read(0, 2), 4);
        Check.answers("the sort that it has now", x, x.write(0, 0, 300));
        Check.answers("the sort that it has now", x, x.read(0, 0), 300);
        Check.answers("longer again", x, x.tray(0, 0, 3));
        Check.answers("what was there once is gone", x, x.read(0, 2), 0);
        Check.answers("another TRAY stays", x, x.read(1, 2), 8);
    }

    private static void cut(int sort, long v, long want) {
        CableDrawer x = new CableDrawer();
        x.tray(sort, sort, 1);
        Check.answers("write " + v + ", sort " + sort, x, x.write(sort, 0, v));
        Check.answers("read of " + v + ", sort " + sort, x, x.read(sort, 0), want);
    }

    private static void cutToItsSort() {
        Check.sentence(Check.TERMS, "with sign; what is written is cut to these.");
        for (int sort = 0; sort <= 2; sort++) {
            long half = 1L << (8 << sort) - 1;
            cut(sort, half - 1, half - 1);
            cut(sort, half, -half);
            cut(sort, -half, -half);
            cut(sort, -half - 1, half - 1);
            cut(sort, 2 * half - 1, -1);
            cut(sort, 2 * half, 0);
            cut(sort, 2 * half + 1, 1);
            cut(sort, -1, -1);
            cut(sort, Long.MAX_VALUE, -1);
            cut(sort, Long.MIN_VALUE, 0);
        }
        cut(3, Long.MAX_VALUE, Long.MAX_VALUE);
        cut(3, Long.MIN_VALUE, Long.MIN_VALUE);
        cut(3, 1L << 32, 1L << 32);
    }

    private static void write() {
        Check.sentence(6, "A number comes to a place of a TRAY (1; 3; 4).");
        CableDrawer x = new CableDrawer();
        x.tray(1, 0, 3);
        Check.answers("the first place", x, x.write(1, 0, 5));
        Check.answers("the last place", x, x.write(1, 2, 7));
        Check.answers("the first", x, x.read(1, 0), 5);
        Check.answers("between them", x, x.read(1, 1), 0);
        Check.answers("the last", x, x.read(1, 2), 7);
        Scene.denies("TRAY -1", Scene::full, y -> y.write(-1, 0, 1), 1);
        Scene.denies("TRAY 4", Scene::full, y -> y.write(4, 0, 1), 1);
        Scene.denies("a MISSING one", Scene::full, y -> y.write(3, 0, 1), 3);
        Scene.denies("place -1", Scene::full, y -> y.write(0, -1, 1), 4);
        Scene.denies("behind the last place", Scene::full, y -> y.write(0, 3, 1), 4);
        Scene.denies("a TRAY without numbers", Scene::full, y -> y.write(2, 0, 1), 4);
        Scene.denies("far off", Scene::full, y -> y.write(0, MAX, 1), 4);
        Scene.denies("far below", Scene::full, y -> y.write(1, MIN, 1), 4);
        Scene.denies("below by a TRAY's length", Scene::full, y -> y.write(1, -60, 1), 4);
        Scene.denies("1 ahead of 4", Scene::full, y -> y.write(4, -1, 1), 1);
        Scene.denies("3 ahead of 4", Scene::full, y -> y.write(3, -1, 1), 3);
    }

    private static void read() {
        Check.sentence(7, "The number in a place of a TRAY; STATUS tells NONE from -1 (1; 3; 4).");
        CableDrawer x = new CableDrawer();
        x.tray(0, 0, 60);
        x.write(0, 59, -1);
        Check.answers("a number that is -1", x, x.read(0, 59), -1);
        Scene.keeps("read(0, 0)", Scene::full, y -> y.read(0, 0));
        Scene.refuses("TRAY -1", Scene::full, y -> y.read(-1, 0), 1);
        Scene.refuses("TRAY 4", Scene::full, y -> y.read(4, 0), 1);
        Scene.refuses("a MISSING one", Scene::full, y -> y.read(3, 0), 3);
        Scene.refuses("place -1", Scene::full, y -> y.read(0, -1), 4);
        Scene.refuses("behind the last place", Scene::full, y -> y.read(0, 3), 4);
        Scene.refuses("a TRAY without numbers", Scene::full, y -> y.read(2, 0), 4);
        Scene.refuses("far off", Scene::full, y -> y.read(0, MAX), 4);
        Scene.refuses("far below", Scene::full, y -> y.read(1, MIN), 4);
        Scene.refuses("1 ahead of 4", Scene::full, y -> y.read(4, -1), 1);
        Scene.refuses("3 ahead of 4", Scene::full, y -> y.read(3, -1), 3);
    }

    private static void holds(CableDrawer x, int tray, int... want) {
        for (int place = 0; place < want.length; place++) {
            Check.due("read(" + tray + ", " + place + ")", x.read(tray, place), want[place]);
        }
    }

    private static CableDrawer poured() {
        CableDrawer x = new CableDrawer();
        x.tray(0, 1, 5);
        x.tray(1, 1, 3);
        for (int place = 0; place < 5; place++) {
            x.write(0, place, place + 1);
        }
        return x;
    }

    private static void pourAsTheyWere() {
        Check.sentence(8, "So many numbers from place i on of a TRAY come to place j on of another one, or the same, as they were");
        CableDrawer x = poured();
        Check.answers("to another one", x, x.pour(0, 2, 1, 0, 3));
        holds(x, 1, 3, 4, 5);
        holds(x, 0, 1, 2, 3, 4, 5);
        CableDrawer up = poured();
        Check.answers("the same, to higher places", up, up.pour(0, 0, 0, 1, 4));
        holds(up, 0, 1, 1, 2, 3, 4);
        CableDrawer down = poured();
        Check.answers("the same, to lower places", down, down.pour(0, 1, 0, 0, 4));
        holds(down, 0, 2, 3, 4, 5, 5);
        CableDrawer far = poured();
        Check.answers("the same, places apart", far, far.pour(0, 0, 0, 3, 2));
        holds(far, 0, 1, 2, 3, 1, 2);
        CableDrawer on = poured();
        Check.answers("the same onto itself", on, on.pour(0, 0, 0, 0, 5));
        holds(on, 0, 1, 2, 3, 4, 5);
        CableDrawer whole = new CableDrawer();
        whole.tray(0, 3, 60);
        whole.tray(3, 3, 60);
        for (int place = 0; place < 60; place++) {
            whole.write(0, place, place - 30);
        }
        Check.answers("60 of them", whole, whole.pour(0, 0, 3, 0, 60));
        for (int place = 0; place < 60; place++) {
            Check.due("place " + place, whole.read(3, place), place - 30);
        }
    }

    private static void pourPlaces() {
        Check.sentence(8, "So many numbers from place i on of a TRAY come to place j on of another one");
        CableDrawer x = poured();
        Check.answers("the last place alone", x, x.pour(0, 4, 1, 2, 1));
        holds(x, 1, 0, 0, 5);
        Check.answers("none", x, x.pour(0, 0, 1, 0, 0));
        holds(x, 1, 0, 0, 5);
        Check.sentence(Check.TERMS, "4 a place that the TRAY has not, or too few numbers.");
        Check.refused("one too few from there on", x, x.pour(0, 3, 1, 0, 3), 4);
        Check.refused("one too few to come to", x, x.pour(0, 0, 1, 1, 3), 4);
        Check.refused("the place behind the last", x, x.pour(0, 5, 1, 0, 1), 4);
        Check.refused("the place behind the last to come to", x, x.pour(0, 0, 1, 3, 1), 4);
        Check.refused("none from place -1 on", x, x.pour(0, -1, 1, 0, 0), 4);
        Check.refused("none to place -1", x, x.pour(0, 0, 1, -1, 0), 4);
        Check.refused("none, two places behind the last", x, x.pour(0, 6, 1, 0, 0), 4);
        Check.refused("none, to two places behind the last", x, x.pour(0, 0, 1, 4, 0), 4);
        Check.refused("the most from place 1 on", x, x.pour(0, 1, 1, 1, MAX), 4);
        Check.refused("one from the farthest place on", x, x.pour(0, MAX, 1, 0, 1), 4);
        Check.refused("one to the farthest place", x, x.pour(0, 0, 1, MAX, 1), 4);
        Check.refused("the most to and from the farthest", x, x.pour(0, MAX, 0, MAX, MAX), 4);
        Check.refused("from the lowest place on", x, x.pour(0, MIN, 1, MIN, 1), 4);
        holds(x, 0, 1, 2, 3, 4, 5);
        holds(x, 1, 0, 0, 5);
    }

    private static void pourRefusals() {
        Check.sentence(8, "1, 3 (either), 11, 6, 4, asked in this order.");
        Scene.denies("1, the first", Scene::full, x -> x.pour(-1, 0, 0, 0, 1), 1);
        Scene.denies("1, the first", Scene::full, x -> x.pour(4, 0, 0, 0, 1), 1);
        Scene.denies("1, the second", Scene::full, x -> x.pour(0, 0, -1, 0, 1), 1);
        Scene.denies("1, the second", Scene::full, x -> x.pour(0, 0, 4, 0, 1), 1);
        Scene.denies("1 ahead of 3", Scene::full, x -> x.pour(3, 0, 4, 0, 1), 1);
        Scene.denies("1 ahead of 6, 4", Scene::full, x -> x.pour(0, -1, 4, -1, -1), 1);
        Scene.denies("3, the first", Scene::full, x -> x.pour(3, 0, 0, 0, 1), 3);
        Scene.denies("3, the second", Scene::full, x -> x.pour(0, 0, 3, 0, 1), 3);
        Scene.denies("3, both the same", Scene::full, x -> x.pour(3, 0, 3, 0, 0), 3);
        Scene.denies("3 ahead of 11", Scene::full, x -> x.pour(2, 0, 3, 0, 0), 3);
        Scene.denies("3 ahead of 6, 4", Scene::full, x -> x.pour(0, -1, 3, -1, -1), 3);
        Check.sentence(Check.TERMS, "11 TRAYS of unlike sorts.");
        Scene.denies("11", Scene::full, x -> x.pour(0, 0, 2, 0, 0), 11);
        Scene.denies("11 ahead of 6", Scene::full, x -> x.pour(0, 0, 2, 0, -1), 11);
        Scene.denies("11 ahead of 4", Scene::full, x -> x.pour(2, 0, 0, 9, 1), 11);
        Check.sentence(8, "1, 3 (either), 11, 6, 4, asked in this order.");
        Scene.denies("6", Scene::full, x -> x.pour(0, 0, 1, 0, -1), 6);
        Scene.denies("6, the least", Scene::full, x -> x.pour(0, 0, 1, 0, MIN), 6);
        Scene.denies("6 ahead of 4", Scene::full, x -> x.pour(0, -1, 1, 9, -1), 6);
        Scene.denies("4, the first", Scene::full, x -> x.pour(0, 1, 1, 0, 3), 4);
        Scene.denies("4, the second", Scene::full, x -> x.pour(0, 0, 1, 1, 3), 4);
    }
}
