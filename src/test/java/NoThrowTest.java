import java.lang.reflect.Method;
import java.lang.reflect.Modifier;
import java.util.ArrayList;
import java.util.List;
import java.util.Random;

/** Calls every method with every mixture of far and near arguments, in many states: none may throw. */
public final class NoThrowTest {
    private static final int[] INTS = {Integer.MIN_VALUE, Integer.MIN_VALUE + 1, -900, -1, 0, 1, 2, 3, 4, 5, 6, 7, 8, 9, 23, 24,
        25, 59, 60, 61, 99, 100, 300, 301, 899, 900, 901, 999, 1000, 9999, 10000, 65536, Integer.MAX_VALUE - 1, Integer.MAX_VALUE};
    private static final String DRAWER = "lead a long 30 stiff 3 ends 1 9 costs 999 used 16; lead b long 30; lead c long 17 stiff 9;"
        + "lead d long 9 clip; lead e long 30 used 3; lead f long 28; lead g long 12; lead h long 6 stiff 1;"
        + "cross a b knot; cross b c tight; cross c e threaded; cross e a; cross f g tight; cross g h knot;"
        + "look l a b c; look m h; look n d e f g;";
    private static final String YEARS = "loop 9; open 9; loop 3; take a; when cross > 9; take b; take c; end; pull f; end; end;"
        + "when free d; clip g; end; cut e; loosen;";

    public static void main(String[] args) throws Exception {
        List<Method> methods = new ArrayList<>();
        for (Method method : CableDrawer.class.getDeclaredMethods()) {
            if (Modifier.isPublic(method.getModifiers())) {
                methods.add(method);
            }
        }
        methods.sort((a, b) -> a.getName().compareTo(b.getName()));
        long calls = 0;
        for (int run = 0; run < 400; run++) {
            Random random = new Random(run);
            CableDrawer x = new CableDrawer();
            if (run % 4 != 0) {
                Check.drawer(x, DRAWER);
                Check.years(x, YEARS);
            }
            for (int call = 0; call < 1500; call++) {
                one(x, methods.get(random.nextInt(methods.size())), random, run);
                calls++;
            }
        }
        anyBytes();
        System.out.println(calls + " calls, none threw");
    }

    private static void one(CableDrawer x, Method method, Random random, int run) throws Exception {
        Class<?>[] types = method.getParameterTypes();
        Object[] arguments = new Object[types.length];
        boolean near = random.nextInt(3) > 0;
        for (int i = 0; i < types.length; i++) {
            int v = near ? random.nextInt(8) : INTS[random.nextInt(INTS.length)];
            arguments[i] = types[i] == long.class ? (Object) (long) v : (Object) v;
        }
        boolean rarely = method.getName().matches("drawer|cut|years");
        if (rarely && run % 4 != 0 && random.nextInt(20) > 0) {
            return;
        }
        Object answer = method.invoke(x, arguments);
        if (x.bottom() <= 0 || x.status() < 0 || x.status() > 11) {
            throw new IllegalStateException(method.getName() + " answered " + answer + " with status " + x.status());
        }
    }

    /** Texts of any bytes at all, and of words in any order. */
    private static void anyBytes() {
        String[] words = (DRAWER + " " + YEARS).replace(";", " ; ").split(" +");
        Random random = new Random(5);
        for (int run = 0; run < 3000; run++) {
            CableDrawer x = new CableDrawer();
            StringBuilder text = new StringBuilder();
            if (run % 3 == 0) {
                for (int n = 0; n < 880; n++) {
                    text.append((char) random.nextInt(256));
                }
            } else {
                for (int n = 0; n < 100; n++) {
                    text.append(words[random.nextInt(words.length)]).append(random.nextInt(9) == 0 ? "" : " ");
                }
            }
            String cut = text.substring(0, Math.min(text.length(), 880));
            Check.drawer(x, cut);
            Check.years(x, cut.substring(0, Math.min(cut.length(), 300)));
            x.live(run);
        }
    }
}
