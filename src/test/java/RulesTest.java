import java.io.IOException;
import java.lang.reflect.Constructor;
import java.lang.reflect.Executable;
import java.lang.reflect.Field;
import java.lang.reflect.Method;
import java.lang.reflect.Modifier;
import java.nio.file.Files;
import java.nio.file.Path;
import java.util.ArrayList;
import java.util.List;
import java.util.Set;
import java.util.TreeSet;
import java.util.regex.Matcher;
import java.util.regex.Pattern;

/** What of LANGUAGE.md can be looked at by a program: the face, the words, and how large things are. */
public final class RulesTest {
    private static final String[] FACE = {
        "int status()", "long top()", "long bottom()", "boolean tray(int,int,int)", "boolean write(int,int,long)",
        "long read(int,int)", "boolean pour(int,int,int,int,int)", "int feed(int,int,int,int,int)", "int drawer(int)",
        "int years(int)", "int fault(int)", "int many(int)", "int lead(int,int)", "int crossing(int,int)",
        "int along(int,int)", "int look(int)", "int between(int,int)", "int copyStates(int)", "int follow(int,int)",
        "int loosen()", "int pull(int)", "int cut(int)", "boolean clip(int)", "boolean unclip(int)",
        "int cross(int,int,int)", "int open(int)", "int lump(int)", "int lumps(int)", "int comes(int)", "int easy()",
        "int free(int)", "int inState(int)", "int worse(int,int)", "int worst()", "int key()", "int alone(int)",
        "int way(int)", "int follows(int,int,int)", "int all()", "int order(int)", "int loosens()", "int soonest()",
        "boolean fresh(int,int)", "boolean grows()", "int clips()", "boolean tries(int)", "int nextTry(int,int)",
        "int boxes(int)", "int waste(int)", "int live(int)", "int lived(int)", "boolean mean(int,int)",
        "boolean odds(int,int,int)", "int mark()", "int back()"};

    public static void main(String[] args) throws IOException {
        face();
        List<Class<?>> classes = new ArrayList<>(List.of(CableDrawer.class.getDeclaredClasses()));
        for (Class<?> inner : classes) {
            Check.due(inner + " is static", Modifier.isStatic(inner.getModifiers()), true);
            Check.due(inner + " is private", Modifier.isPrivate(inner.getModifiers()), true);
            Check.due(inner + " has none inside", inner.getDeclaredClasses().length, 0);
        }
        classes.add(CableDrawer.class);
        Check.due("some twelve classes", classes.size() <= 12, true);
        for (Class<?> each : classes) {
            members(each);
        }
        source();
        Check.finish();
    }

    private static void face() {
        Set<String> want = new TreeSet<>(List.of(FACE));
        Set<String> got = new TreeSet<>();
        Set<String> hidden = new TreeSet<>();
        for (Method method : CableDrawer.class.getDeclaredMethods()) {
            if (Modifier.isPrivate(method.getModifiers())) {
                hidden.add(method.getName());
            } else {
                got.add(told(method));
            }
        }
        if (!got.equals(want)) {
            Check.due("the face is " + got + ", not " + want, false, true);
        }
        for (Method method : CableDrawer.class.getDeclaredMethods()) {
            if (Modifier.isPublic(method.getModifiers())) {
                Check.due("a private method called " + method.getName(), hidden.contains(method.getName()), false);
            }
        }
        for (Field field : CableDrawer.class.getDeclaredFields()) {
            boolean none = field.getName().equals("NONE");
            Check.due(field + " is private, or NONE", Modifier.isPrivate(field.getModifiers()) != none, true);
        }
        Check.due("constructors", CableDrawer.class.getDeclaredConstructors().length, 1);
        for (Constructor<?> constructor : CableDrawer.class.getDeclaredConstructors()) {
            Check.due("public, without parameters", Modifier.isPublic(constructor.getModifiers())
                && constructor.getParameterCount() == 0, true);
        }
        Check.due("public and final", CableDrawer.class.getModifiers() == (Modifier.PUBLIC | Modifier.FINAL), true);
    }

    private static String told(Executable method) {
        StringBuilder text = new StringBuilder(((Method) method).getReturnType() + " " + method.getName() + "(");
        for (Class<?> type : method.getParameterTypes()) {
            text.append(text.charAt(text.length() - 1) == '(' ? "" : ",").append(type);
        }
        return text.append(")").toString();
    }

    private static void members(Class<?> each) {
        int fields = 0;
        for (Field field : each.getDeclaredFields()) {
            boolean fixed = Modifier.isStatic(field.getModifiers());
            Check.due(field + ": a static one is final", !fixed || Modifier.isFinal(field.getModifiers()), true);
            fields += fixed ? 0 : 1;
        }
        Check.due(each + " has " + fields + " fields", fields <= 20, true);
        for (Method method : each.getDeclaredMethods()) {
            Check.due(method + " is a method of the source", method.isSynthetic(), false);
            Check.due(method + " has at most seven parameters", method.getParameterCount() <= 7, true);
        }
    }

    private static void source() throws IOException {
        String text = Files.readString(Path.of("src/main/java/CableDrawer.java"));
        String bare = text.replaceAll("(?s)/\\*.*?\\*/", "").replaceAll("//[^\n]*", "").replaceAll("\"[^\"\n]*\"", "\"\"")
            .replaceAll("'[^'\n]'", "0");
        Matcher word = Pattern.compile("\\b(package|import|throw|throws|try|catch|finally|synchronized|assert|instanceof|double"
            + "|float|System|Thread|Random|Exact|hashCode|toString|equals|->\\s*\\{)\\b|::|\"\"\\s*\\+|\\+\\s*\"\"").matcher(bare);
        while (word.find()) {
            Check.due("the source has " + word.group(), false, true);
        }
        for (int i = 0; i < text.length(); i++) {
            if (text.charAt(i) > 126) {
                Check.due("a sign above 126 at " + i, false, true);
            }
        }
        int length = 0;
        int longest = 0;
        boolean within = false;
        for (String line : text.split("\n")) {
            if (line.matches(" {4}(    )?(?! )[^/*}].*\\) \\{")) {
                within = true;
                length = 0;
            }
            length++;
            if (within && line.matches(" {4}(    )?\\}")) {
                within = false;
                longest = Math.max(longest, length);
            }
        }
        Check.due("the longest method has " + longest + " lines", longest > 10 && longest <= 60, true);
    }
}
