import java.util.ArrayList;
import java.util.List;
import java.util.Map;
import java.util.Random;
import java.util.TreeMap;
import java.util.function.LongSupplier;

/**
 * Runs of up to 512 random calls, each asked of a CableDrawer and of the Model; every answer, STATUS and
 * FRACTION must be the same. The seeds are fixed. Arguments: how many runs, the first one's seed.
 */
public final class ModelTest {
    private static final String[] NAMES = {"a", "b", "usb", "hdmi", "lamp", "mouse", "phonecab", "tv", "old", "x", "y"};

    private final Random random;
    private final long seed;
    private final CableDrawer x = new CableDrawer();
    private final Model m = new Model();
    private final Map<String, Integer> seen;
    private final List<String> told = new ArrayList<>();
    private int calls = 0;
    private boolean alike = true;
    /** One order of NAMES a run, so that YEARS mostly name LEADS of whatever DRAWER is there. */
    private final List<String> names = new ArrayList<>(List.of(NAMES));

    private ModelTest(long seed, Map<String, Integer> seen) {
        this.seed = seed;
        this.seen = seen;
        this.random = new Random(seed * 7919 + 17);
        java.util.Collections.shuffle(names, random);
    }

    public static void main(String[] args) {
        int runs = args.length > 0 ? Integer.parseInt(args[0]) : 2500;
        long first = args.length > 1 ? Long.parseLong(args[1]) : 1;
        Map<String, Integer> seen = new TreeMap<>();
        for (long seed = first; seed < first + runs; seed++) {
            if (!new ModelTest(seed, seen).run()) {
                System.exit(1);
            }
        }
        System.out.println(runs + " runs are as the model's; calls by their STATUS: " + seen);
        if (!everyStatusWasMet(seen)) {
            System.exit(1);
        }
    }

    /** A run that never meets a STATUS tests nothing of it: each must have been met often enough. */
    private static boolean everyStatusWasMet(Map<String, Integer> seen) {
        String[] due = {"tray 0 1 5 6", "write 0 1 3 4", "read 0 1 3 4", "pour 0 1 3 11 6 4", "drawer 0 5 10",
            "years 0 5 10", "many 0 5", "lead 0 2 5", "crossing 0 5 8", "along 0 2 8", "look 0 2", "between 0 2 5",
            "copyStates 0 1 3 4", "follow 0 2 5 9 8", "loosen 0", "pull 0 2 9", "cut 0 2 9", "clip 0 2 9",
            "unclip 0 2 9", "cross 0 2 5 7 9", "open 0 5", "lump 0 2 9", "lumps 0 5", "comes 0 2 9", "easy 0",
            "free 0 2", "inState 0 5", "worse 0 2 5 9", "worst 0 8", "key 0 8", "alone 0 2 9", "way 0 5 8",
            "follows 0 2 5 9", "all 0", "order 0 8", "loosens 0 8", "soonest 0 8", "fresh 0 2 5 9", "grows 0",
            "clips 0 8", "tries 0 2 8 9", "nextTry 0 2 8", "boxes 0 5 9", "waste 0 5", "live 0 5 8", "lived 0 5 8",
            "mean 0 5 8", "odds 0 2 5 8", "mark 0 7", "back 0 8", "fault-drawer 1 2 3 4 5 6", "fault-years 1 2 3 4 6 7"};
        boolean all = true;
        for (String line : due) {
            String[] part = line.split(" ");
            for (int i = 1; i < part.length; i++) {
                if (seen.getOrDefault(part[0] + " " + part[i], 0) < 5) {
                    System.out.println("met fewer than five times: " + part[0] + " with " + part[i]);
                    all = false;
                }
            }
        }
        return all;
    }

    private boolean run() {
        boolean empty = below(12) == 0;
        for (int times = 0; times < 6 && !empty && m.many(0) == 0; times++) {
            newDrawer();
        }
        for (int tray = 0; tray < below(4); tray++) {
            int number = tray;
            int sort = below(3) == 0 ? tray : 1;
            both("tray(" + number + ", " + sort + ", 30)", () -> n(x.tray(number, sort, 30)), () -> m.tray(number, sort, 30));
        }
        while (calls < 480 && alike) {
            step();
        }
        if (!alike) {
            System.out.println("run of seed " + seed + " is not as the model's:");
            told.forEach(System.out::println);
        }
        return alike;
    }

    private void both(String call, LongSupplier program, LongSupplier model) {
        if (!alike) {
            return;
        }
        calls++;
        long got = program.getAsLong();
        long status = 0;
        long want;
        try {
            want = model.getAsLong();
        } catch (Model.Refusal refusal) {
            status = refusal.status;
            want = call.matches("(tray|write|pour|clip|unclip|fresh|grows|tries|mean|odds)\\(.*") ? 0 : -1;
        }
        told.add(call + " = " + got + " status " + x.status());
        boolean hasStatus = !call.startsWith("feed") && !call.startsWith("fault");
        if (got != want || hasStatus && x.status() != status || x.top() != m.top || x.bottom() != m.bottom) {
            told.add("due: " + want + ", status " + status + ", fraction " + m.top + "/" + m.bottom + ", not "
                + x.top() + "/" + x.bottom());
            alike = false;
        }
        if (hasStatus) {
            seen.merge(call.substring(0, call.indexOf('(')) + " " + status, 1, Integer::sum);
        }
    }

    private static long n(boolean b) {
        return b ? 1 : 0;
    }

    private int below(int n) {
        return random.nextInt(n);
    }

    /** Mostly from least to most, now and then next to it or far away. */
    private int about(int least, int most) {
        return switch (below(14)) {
            case 0 -> least - 1;
            case 1 -> most + 1;
            case 2 -> below(6) > 0 ? least : below(2) == 0 ? Integer.MIN_VALUE : Integer.MAX_VALUE;
            default -> least + below(most - least + 1);
        };
    }

    private int someLead() {
        return below(30) == 0 ? about(0, 8) : below(Math.max(1, m.many(0)));
    }

    // ---- texts

    private String number(int least, int most) {
        int v = below(25) == 0 ? about(least, most) : least + below(most - least + 1);
        return (below(12) == 0 ? "0" : "") + Math.max(0, Math.min(99999, v));
    }

    private String blank() {
        return below(9) == 0 ? "\n" : below(9) == 0 ? "  " : " ";
    }

    private String tight() {
        return below(4) == 0 ? blank() : "";
    }

    private String drawerText() {
        StringBuilder t = new StringBuilder();
        int leads = below(25) == 0 ? 9 : below(9);
        int clips = below(3);
        List<String> bare = new ArrayList<>();
        for (int i = 0; i < leads; i++) {
            String name = below(60) == 0 ? names.get(0) : names.get(i);
            boolean clip = below(8) < clips;
            t.append("lead").append(blank()).append(name).append(blank()).append("long").append(tight()).append(number(1, 30));
            t.append(below(2) == 0 ? blank() + "stiff " + number(0, below(2) == 0 ? 2 : 9) : "");
            t.append(below(2) == 0 ? blank() + "ends " + number(1, 9) + blank() + number(1, 9) : "");
            t.append(below(2) == 0 ? blank() + "costs " + number(0, below(3) == 0 ? 999 : 60) : "");
            t.append(below(2) == 0 ? blank() + "used " + number(0, below(3) == 0 ? 2 : 16) : "");
            t.append(clip ? blank() + "clip" : "").append(tight()).append(';').append(tight());
            if (!clip || below(80) == 0) {
                bare.add(name);
            }
        }
        if (below(40) == 0) {
            bare.add("nobody");
        }
        if (bare.size() > 1) {
            int crossings = below(20) == 0 ? 25 : below(below(3) == 0 ? 25 : 13);
            String[] states = {"", "", " threaded", " tight", " knot"};
            int kinds = 1 + below(5);
            for (int k = 0; k < crossings; k++) {
                int a = below(bare.size());
                int b = below(150) == 0 ? a : (a + 1 + below(bare.size() - 1)) % bare.size();
                t.append("cross ").append(bare.get(a)).append(blank()).append(bare.get(b)).append(states[below(kinds)]);
                t.append(tight()).append(';');
            }
        }
        int looks = leads == 0 ? 0 : below(12) == 0 ? 4 : below(4);
        for (int k = 0; k < looks; k++) {
            t.append("look ").append(below(40) == 0 ? names.get(0) : "l" + "abcd".charAt(k));
            List<String> some = new ArrayList<>(names.subList(0, Math.min(leads, 8)));
            java.util.Collections.shuffle(some, random);
            for (String name : some.subList(0, 1 + below(Math.min(some.size(), below(2) == 0 ? 3 : 8)))) {
                t.append(blank()).append(name);
            }
            t.append(below(60) == 0 ? " " + some.get(0) : "").append(tight()).append(';');
        }
        return t.toString();
    }

    private String yearsText() {
        StringBuilder t = new StringBuilder();
        int steps = below(20) == 0 ? 36 : below(14);
        int depth = 0;
        boolean deep = below(8) == 0;
        boolean brief = steps == 36;
        for (int k = 0; k < steps; k++) {
            String name = leadName();
            int kind = brief ? 2 + 6 * below(2) * below(2) : below(11);
            switch (kind) {
                case 0, 1 -> t.append("open").append(tight()).append(number(1, below(4) == 0 ? 99 : 6));
                case 2 -> t.append("loosen");
                case 3, 4 -> t.append("take ").append(name);
                case 5 -> t.append("pull ").append(name);
                case 6 -> t.append(below(3) == 0 ? "cut " : "clip ").append(name);
                case 7 -> t.append("clip ").append(name);
                case 8 -> {
                    if (depth < 3 || deep) {
                        t.append("loop").append(blank()).append(number(1, below(3) == 0 ? 99 : 4));
                        depth++;
                    } else {
                        t.append("loosen");
                    }
                }
                case 9 -> {
                    if (depth < 3 || deep) {
                        t.append("when ").append(test());
                        depth++;
                    } else {
                        t.append("open 1");
                    }
                }
                default -> t.append(below(6) == 0 ? "stop" : "open 2");
            }
            t.append(brief ? "" : tight()).append(';').append(brief ? "" : tight());
            while (depth > 0 && below(3) == 0) {
                t.append("end;");
                depth--;
            }
        }
        for (; depth > 0; depth--) {
            t.append("end").append(tight()).append(';');
        }
        return t.toString();
    }

    private String test() {
        String sign = "<>=".substring(below(3)).substring(0, 1);
        return switch (below(3)) {
            case 0 -> "lump " + sign + number(0, 8);
            case 1 -> "cross" + sign + " " + number(0, 24);
            default -> "free " + leadName();
        };
    }

    private String leadName() {
        int leads = m.many(0);
        return leads == 0 || below(150) == 0 ? "nobody" : names.get(below(leads));
    }

    private String spoil(String text) {
        if (below(7) > 0) {
            return text;
        }
        StringBuilder t = new StringBuilder(text);
        String[] bits = {";", "<", "=", ">", "a", "z", "lead ", "cross ", "look ", "clip ", " end;", "stop;", "9", "12345",
            "from", " ", "\n", "A", "-", "\u00e9", "\0", "\t", "abcdefghi ", " threaded", " loop 3;", " when ", "{", "`", "/", ":"};
        for (int times = 1 + below(2); times > 0; times--) {
            int at = below(t.length() + 1);
            switch (below(3)) {
                case 0 -> t.insert(at, bits[below(bits.length)]);
                case 1 -> t.delete(at, Math.min(t.length(), at + 1 + below(4)));
                default -> t.replace(at, Math.min(t.length(), at + 1), bits[below(bits.length)]);
            }
        }
        return t.toString();
    }

    private int feed(String text) {
        while (text.length() % 20 != 0) {
            text += " ";
        }
        told.add("text: " + text);
        for (int i = 0; i < text.length() && i < 920; i += 20) {
            int[] v = new int[5];
            for (int n = 0; n < 20; n++) {
                v[n / 4] = v[n / 4] << 8 | text.charAt(i + n);
            }
            both("feed(..)", () -> x.feed(v[0], v[1], v[2], v[3], v[4]), () -> m.feed(v[0], v[1], v[2], v[3], v[4]));
        }
        return text.length();
    }

    private void newDrawer() {
        String text = spoil(drawerText());
        feed(text);
        int n = below(40) == 0 ? about(0, text.length()) : text.length();
        both("drawer(" + n + ")", () -> x.drawer(n), () -> m.drawer(n));
        faults("drawer");
    }

    private void newYears() {
        String text = spoil(yearsText());
        feed(text);
        int n = below(40) == 0 ? about(0, 300) : text.length();
        both("years(" + n + ")", () -> x.years(n), () -> m.years(n));
        faults("years");
    }

    private void faults(String of) {
        if (x.status() == 10) {
            seen.merge("fault-" + of + " " + m.fault(0), 1, Integer::sum);
        }
        both("fault(0)", () -> x.fault(0), () -> m.fault(0));
        both("fault(1)", () -> x.fault(1), () -> m.fault(1));
    }

    // ---- calls

    private void step() {
        switch (below(14)) {
            case 0 -> trayCall();
            case 1 -> {
                if (below(6) == 0 && calls < 430) {
                    newDrawer();
                } else if (below(2) == 0 && calls < 460) {
                    newYears();
                } else {
                    int what = about(0, 1);
                    both("fault(" + what + ")", () -> x.fault(what), () -> m.fault(what));
                }
            }
            case 2, 3 -> asked();
            case 4, 5, 6 -> done();
            case 7, 8 -> together();
            case 9, 10 -> long_();
            case 11 -> worth();
            case 12 -> lived();
            default -> {
                if (below(3) == 0) {
                    both("back()", x::back, m::back);
                } else if (below(2) == 0) {
                    both("mark()", x::mark, m::mark);
                }
            }
        }
    }

    private void trayCall() {
        int tray = below(12) == 0 ? about(0, 3) : below(3);
        int to = below(12) == 0 ? about(0, 3) : below(3);
        int place = about(0, below(2) == 0 ? 3 : 59);
        int other = about(0, 5);
        int many = about(0, below(3) == 0 ? 60 : 8);
        int sort = below(3) == 0 ? about(0, 3) : 1;
        long v = random.nextLong() >> below(64);
        switch (below(7)) {
            case 0 -> both("tray(" + tray + ", " + sort + ", " + many + ")", () -> n(x.tray(tray, sort, many)),
                () -> m.tray(tray, sort, many));
            case 1, 2, 3 -> both("write(" + tray + ", " + place + ", " + v + ")", () -> n(x.write(tray, place, v)),
                () -> m.write(tray, place, v));
            case 4 -> both("pour(" + tray + ", " + place + ", " + to + ", " + other + ", " + many + ")",
                () -> n(x.pour(tray, place, to, other, many)), () -> m.pour(tray, place, to, other, many));
            case 5 -> both("copyStates(" + tray + ")", () -> x.copyStates(tray), () -> m.copyStates(tray));
            default -> { }
        }
        both("read(" + tray + ", " + place + ")", () -> x.read(tray, place), () -> m.read(tray, place));
        both("read(" + to + ", " + other + ")", () -> x.read(to, other), () -> m.read(to, other));
    }

    private void asked() {
        int lead = someLead();
        int other = someLead();
        int what = about(0, 7);
        int k = about(0, 5);
        int far = about(0, 23);
        int part = below(20) == 0 ? about(0, 2) : below(3);
        switch (below(6)) {
            case 0 -> both("many(" + what + ")", () -> x.many(what), () -> m.many(what));
            case 1 -> both("lead(" + lead + ", " + what + ")", () -> x.lead(lead, what), () -> m.lead(lead, what));
            case 2 -> both("crossing(" + far + ", " + part + ")", () -> x.crossing(far, part), () -> m.crossing(far, part));
            case 3 -> both("along(" + lead + ", " + k + ")", () -> x.along(lead, k), () -> m.along(lead, k));
            case 4 -> both("look(" + part + ")", () -> x.look(part), () -> m.look(part));
            default -> both("between(" + lead + ", " + other + ")", () -> x.between(lead, other), () -> m.between(lead, other));
        }
    }

    private void done() {
        int lead = someLead();
        int other = someLead();
        int end = below(12) == 0 ? about(0, 1) : below(2);
        int state = below(20) == 0 ? about(0, 3) : below(4);
        int seed = below(30) == 0 ? about(0, 9999) : below(10000);
        switch (below(16)) {
            case 0, 1 -> both("follow(" + lead + ", " + end + ")", () -> x.follow(lead, end), () -> m.follow(lead, end));
            case 2 -> both("loosen()", x::loosen, m::loosen);
            case 3 -> both("pull(" + lead + ")", () -> x.pull(lead), () -> m.pull(lead));
            case 4 -> {
                if (below(2) == 0) {
                    both("cut(" + lead + ")", () -> x.cut(lead), () -> m.cut(lead));
                }
            }
            case 5 -> both("clip(" + lead + ")", () -> n(x.clip(lead)), () -> m.clip(lead));
            case 6 -> both("unclip(" + lead + ")", () -> n(x.unclip(lead)), () -> m.unclip(lead));
            case 7, 8, 9, 10 -> both("open(" + seed + ")", () -> x.open(seed), () -> m.open(seed));
            default -> both("cross(" + lead + ", " + other + ", " + state + ")", () -> x.cross(lead, other, state),
                () -> m.cross(lead, other, state));
        }
    }

    private void together() {
        int lead = someLead();
        int state = below(12) == 0 ? about(0, 3) : below(4);
        int what = below(12) == 0 ? about(0, 1) : below(2);
        switch (below(9)) {
            case 0 -> both("lump(" + lead + ")", () -> x.lump(lead), () -> m.lump(lead));
            case 1 -> both("lumps(" + what + ")", () -> x.lumps(what), () -> m.lumps(what));
            case 2 -> both("comes(" + lead + ")", () -> x.comes(lead), () -> m.comes(lead));
            case 3 -> both("easy()", x::easy, m::easy);
            case 4 -> both("free(" + lead + ")", () -> x.free(lead), () -> m.free(lead));
            case 5 -> both("inState(" + state + ")", () -> x.inState(state), () -> m.inState(state));
            case 6 -> both("worse(" + lead + ", " + state + ")", () -> x.worse(lead, state), () -> m.worse(lead, state));
            case 7 -> both("worst()", x::worst, m::worst);
            default -> both("key()", x::key, m::key);
        }
    }

    private void long_() {
        int lead = someLead();
        int what = about(0, 3);
        int i = about(0, 3);
        int j = about(0, 3);
        int k = about(0, 4);
        switch (below(9)) {
            case 0, 1 -> {
                both("alone(" + lead + ")", () -> x.alone(lead), () -> m.alone(lead));
                for (int w = 0; w <= 3; w++) {
                    int each = w;
                    both("way(" + each + ")", () -> x.way(each), () -> m.way(each));
                }
            }
            case 2 -> both("way(" + what + ")", () -> x.way(what), () -> m.way(what));
            case 3 -> both("follows(" + lead + ", " + i + ", " + j + ")", () -> x.follows(lead, i, j), () -> m.follows(lead, i, j));
            case 4 -> {
                if (Integer.bitCount(m.many(3)) <= 5 || below(12) == 0) {
                    both("all()", x::all, m::all);
                    both("loosens()", x::loosens, m::loosens);
                    for (int n = 0; n <= 8; n++) {
                        int each = n;
                        both("order(" + each + ")", () -> x.order(each), () -> m.order(each));
                    }
                }
            }
            case 5 -> both("order(" + k + ")", () -> x.order(k), () -> m.order(k));
            case 6 -> both("loosens()", x::loosens, m::loosens);
            default -> both("soonest()", x::soonest, m::soonest);
        }
    }

    private void worth() {
        int lead = someLead();
        int pence = below(12) == 0 ? about(0, 999) : below(below(2) == 0 ? 1000 : 8);
        int look = below(12) == 0 ? about(0, 2) : below(Math.max(1, m.many(2)));
        int k = about(0, 4);
        int room = below(12) == 0 ? about(1, 99) : 20 + below(60);
        switch (below(7)) {
            case 0 -> both("fresh(" + lead + ", " + pence + ")", () -> n(x.fresh(lead, pence)), () -> m.fresh(lead, pence));
            case 1 -> both("grows()", () -> n(x.grows()), m::grows);
            case 2 -> both("clips()", x::clips, m::clips);
            case 3 -> both("tries(" + look + ")", () -> n(x.tries(look)), () -> m.tries(look));
            case 4 -> both("nextTry(" + look + ", " + k + ")", () -> x.nextTry(look, k), () -> m.nextTry(look, k));
            case 5 -> both("boxes(" + room + ")", () -> x.boxes(room), () -> m.boxes(room));
            default -> both("waste(" + pence + ")", () -> x.waste(pence), () -> m.waste(pence));
        }
    }

    private void lived() {
        int lead = someLead();
        int seed = below(12) == 0 ? about(0, 9999) : below(10000);
        int many = below(12) == 0 ? about(1, 20) : 1 + below(5);
        int what = below(12) == 0 ? about(0, 4) : below(5);
        switch (below(5)) {
            case 0 -> {
                both("live(" + seed + ")", () -> x.live(seed), () -> m.live(seed));
                for (int w = 0; w <= 4; w++) {
                    int each = w;
                    both("lived(" + each + ")", () -> x.lived(each), () -> m.lived(each));
                }
                both("many(5)", () -> x.many(5), () -> m.many(5));
                both("many(1)", () -> x.many(1), () -> m.many(1));
            }
            case 1, 2 -> both("mean(" + seed + ", " + many + ")", () -> n(x.mean(seed, many)), () -> m.mean(seed, many));
            case 3 -> both("odds(" + lead + ", " + seed + ", " + many + ")", () -> n(x.odds(lead, seed, many)),
                () -> m.odds(lead, seed, many));
            default -> both("lived(" + what + ")", () -> x.lived(what), () -> m.lived(what));
        }
    }
}
