import java.io.IOException;
import java.lang.reflect.Constructor;
import java.lang.reflect.Field;
import java.lang.reflect.Method;
import java.lang.reflect.Modifier;
import java.nio.file.Files;
import java.nio.file.Path;
import java.util.Arrays;
import java.util.Set;
import java.util.TreeSet;
import java.util.regex.Matcher;
import java.util.regex.Pattern;
import java.util.stream.Collectors;

/** The face as the document tells it, and what of ../shared/LANGUAGE.md can be told from the class and its source. */
final class FaceTest {
    private static final String FACE = "int letter(int) int blank() int fault() int tray() int tile(int,int) "
        + "int as(int,int) int cell(int,int) int push(int) int exchange(int,int) int aim(int,int) int recast(int,int) "
        + "int least(int) int reach(int) int home(int,int) int swaps() int cheap(int) int odds(int,int,int,int) "
        + "int see(int,int,int) int forget() int runs(int,int,int) int image() int restore() int count(int) "
        + "long digest()";

    private FaceTest() {
    }

    public static void main(String[] args) throws IOException {
        constants();
        methods();
        fields();
        source();
        Check.end();
    }

    private static void constants() {
        Check.due("NONE", PushTray.NONE, -1);
        Check.due("UNKNOWN", PushTray.UNKNOWN, -101);
        Check.due("OUTSIDE", PushTray.OUTSIDE, -102);
        Check.due("STATE", PushTray.STATE, -103);
        Check.due("FULL", PushTray.FULL, -104);
    }

    private static String told(Method m) {
        String takes = Arrays.stream(m.getParameterTypes()).map(Class::getSimpleName).collect(Collectors.joining(","));
        return m.getReturnType().getSimpleName() + " " + m.getName() + "(" + takes + ")";
    }

    private static void methods() {
        Set<String> due = new TreeSet<>(Arrays.asList(FACE.split("(?<=\\)) ")));
        Set<String> names = due.stream().map(s -> s.replaceAll(".* |\\(.*", "")).collect(Collectors.toSet());
        Set<String> got = new TreeSet<>();
        for (Method m : PushTray.class.getDeclaredMethods()) {
            if (Modifier.isPrivate(m.getModifiers())) {
                Check.isTrue("private " + m.getName() + " bears no public name", !names.contains(m.getName()));
            } else if (!m.isSynthetic()) {
                Check.isTrue(m.getName() + " is public", Modifier.isPublic(m.getModifiers()));
                got.add(told(m));
            }
        }
        Check.isTrue("the face is " + got + ", due is " + due, got.equals(due));
        Check.isTrue("the class is public and final", PushTray.class.getModifiers() == (Modifier.PUBLIC | Modifier.FINAL));
        Constructor<?>[] made = PushTray.class.getDeclaredConstructors();
        Check.isTrue("one public constructor", made.length == 1 && Modifier.isPublic(made[0].getModifiers())
            && made[0].getParameterCount() == 0);
    }

    private static void fields() {
        Set<String> open = new TreeSet<>();
        for (Field f : PushTray.class.getDeclaredFields()) {
            int is = f.getModifiers();
            if (!Modifier.isPrivate(is)) {
                Check.isTrue(f.getName() + " is a public constant", Modifier.isPublic(is) && Modifier.isFinal(is));
                open.add(f.getName());
            }
            Check.isTrue(f.getName() + ", if static, is final", !Modifier.isStatic(is) || Modifier.isFinal(is));
        }
        Check.isTrue("constants " + open, open.equals(Set.of("NONE", "UNKNOWN", "OUTSIDE", "STATE", "FULL")));
        Check.isTrue("twelve classes at most", PushTray.class.getDeclaredClasses().length < 12);
        for (Class<?> inside : PushTray.class.getDeclaredClasses()) {
            int is = inside.getModifiers();
            Check.isTrue(inside + " is static and not public", Modifier.isStatic(is) && !Modifier.isPublic(is));
        }
    }

    private static void source() throws IOException {
        String text = Files.readString(Path.of("src/main/java/PushTray.java"));
        Check.isTrue("signs 1 to 127 alone", text.chars().allMatch(c -> c > 0 && c < 128));
        String code = text.replaceAll("(?s)/\\*.*?\\*/", "").replaceAll("//[^\n]*", "");
        String[] without = {"->", "::", "\\bassert\\b", "\\bsynchronized\\b", "\\bfinally\\b", "\\btry\\b", "\\bcatch\\b",
            "\\bpackage\\b", "\\bprotected\\b", "\\bnative\\b", "Exact\\b", "\\bordinal\\b", "\\bvar\\b", "\\brecord\\b"};
        for (String word : without) {
            Check.isTrue("the source is without " + word, !Pattern.compile(word).matcher(code).find());
        }
        Matcher imports = Pattern.compile("(?m)^import (.*);$").matcher(code);
        while (imports.find()) {
            Check.isTrue("import " + imports.group(1), imports.group(1).equals("java.util.Arrays"));
        }
    }
}
