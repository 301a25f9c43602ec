import java.lang.reflect.Constructor;
import java.lang.reflect.Field;
import java.lang.reflect.Method;
import java.lang.reflect.Modifier;
import java.nio.charset.StandardCharsets;
import java.nio.file.Files;
import java.nio.file.Path;
import java.util.Arrays;
import java.util.List;
import java.util.NoSuchElementException;
import java.util.TreeSet;
import java.util.regex.Matcher;
import java.util.regex.Pattern;

/** The public face as the document tells it, and those rules of LANGUAGE.md that can be seen from outside. */
public final class FaceTest {
    private static final String[] FACE = {
        "int feed(long,long,long)", "int town()", "int days()", "int house(int)", "int wall(int,int)",
        "int family(int,int)", "int joy(int)!", "int owes(int,int)", "int draw(int)", "boolean swap(int,int)",
        "boolean lend(int,int,int)", "boolean pay(int,int,int)", "boolean undo()", "int judged(int)", "int broken()",
        "int odds(int,int)", "int peace(int,int)", "int hope(int)!", "int mend(int)", "int please(int)",
        "int quiet(int)", "int rests(int,int,int)!", "boolean tale(int,int,boolean)", "int how()",
        "int were(int,int)", "int ask()", "int gains(int)!", "int tampered(int,int,int,int)",
        "int centuries(int,int,int)", "boolean mark(int,boolean)", "int count(int)"};

    public static void main(String[] args) throws Exception {
        face();
        members();
        source();
        Check.end();
    }

    private static void same(String what, String got, String want) {
        if (!got.equals(want)) {
            System.out.println(got + "\nis not\n" + want);
        }
        Check.due(what, got.equals(want), true);
    }

    /** A method as in FACE; ! stands for throws NoSuchElementException. */
    private static String told(Method m) {
        StringBuilder text = new StringBuilder();
        for (Class<?> type : m.getParameterTypes()) {
            text.append(text.length() == 0 ? "" : ",").append(type);
        }
        boolean thrower = Arrays.equals(m.getExceptionTypes(), new Class<?>[] {NoSuchElementException.class});
        return m.getReturnType() + " " + m.getName() + "(" + text + ")" + (thrower ? "!" : "");
    }

    private static void face() throws Exception {
        TreeSet<String> found = new TreeSet<>();
        for (Method m : WallLottery.class.getDeclaredMethods()) {
            if (Modifier.isPublic(m.getModifiers())) {
                found.add(told(m));
            }
        }
        same("methods", found.toString(), new TreeSet<>(List.of(FACE)).toString());
        Constructor<?>[] made = WallLottery.class.getDeclaredConstructors();
        Check.due("constructors", made.length, 1);
        Check.due("public", Modifier.isPublic(made[0].getModifiers()) && made[0].getParameterCount() == 0, true);
        Field none = WallLottery.class.getField("NONE");
        Check.due("NONE", none.getInt(null), -1);
        Check.due("constants", WallLottery.class.getFields().length, 1);
        Check.due("final", Modifier.isFinal(WallLottery.class.getModifiers()), true);
    }

    private static void members() {
        TreeSet<String> open = new TreeSet<>();
        for (Method m : WallLottery.class.getDeclaredMethods()) {
            open.add(Modifier.isPublic(m.getModifiers()) ? m.getName() : "");
        }
        for (Method m : WallLottery.class.getDeclaredMethods()) {
            boolean hidden = Modifier.isPrivate(m.getModifiers());
            Check.due("private, or of the face: " + m, hidden || Modifier.isPublic(m.getModifiers()), true);
            Check.due("no private one has a name of the face: " + m, hidden && open.contains(m.getName()), false);
            Check.due("seven parameters at most: " + m, m.getParameterCount() <= 7, true);
        }
        for (Field f : WallLottery.class.getDeclaredFields()) {
            Check.due("private: " + f, Modifier.isPrivate(f.getModifiers()) || f.getName().equals("NONE"), true);
        }
        int fields = 0;
        for (Class<?> c : WallLottery.class.getDeclaredClasses()) {
            Check.due("static: " + c, Modifier.isStatic(c.getModifiers()), true);
            for (Field f : c.getDeclaredFields()) {
                fields += Modifier.isStatic(f.getModifiers()) ? 0 : 1;
                Check.due("static fields are final: " + f,
                    !Modifier.isStatic(f.getModifiers()) || Modifier.isFinal(f.getModifiers()), true);
            }
            for (Method m : c.getDeclaredMethods()) {
                Check.due("no name of the face inside: " + m, open.contains(m.getName()), false);
            }
        }
        Check.due("fields were looked at", fields > 0, true);
        Check.due("twelve classes", WallLottery.class.getDeclaredClasses().length <= 12, true);
    }

    private static void source() throws Exception {
        String path = System.getProperty("wall.source", "src/main/java/WallLottery.java");
        String text = Files.readString(Path.of(path), StandardCharsets.UTF_8);
        String code = text.replaceAll("(?s)/\\*.*?\\*/", "").replaceAll("//[^\n]*", "").replaceAll("\"[^\"]*\"", "\"\"");
        for (String bad : new String[] {"->", "::", "\\btry\\b", "\\bcatch\\b", "\\bfinally\\b", "\\bassert\\b",
            "\\bsynchronized\\b", "static \\{", "\\bpackage\\b", "Exact\\b", "\\binstanceof\\b", "\\.ordinal\\b",
            "\\bprotected\\b", "\\bdouble\\b", "\\bfloat\\b", "\" *\\+", "\\+ *\"", "while \\(true\\)"}) {
            Matcher m = Pattern.compile(bad).matcher(code);
            Check.due("not in the source: " + bad, m.find(), false);
        }
        Check.due("one import", code.split("\\bimport\\b").length - 1, 1);
        Check.due("signs 1 to 127", text.chars().allMatch(c -> c > 0 && c < 128), true);
        Matcher thrown = Pattern.compile("throw new (\\w+)\\(\\)").matcher(code);
        while (thrown.find()) {
            same("thrown", thrown.group(1), "NoSuchElementException");
        }
        int opened = 0;
        String[] lines = text.split("\n");
        for (int i = 0; i < lines.length; i++) {
            if (lines[i].matches("( {4}| {8})\\w[^;=]*\\) (throws \\w+ )?\\{")) {
                opened = i;
            }
            if (lines[i].matches(" {4}}| {8}}") && opened > 0) {
                Check.due("a method of over sixty lines: " + lines[opened], i - opened <= 60, true);
                opened = 0;
            }
        }
    }
}
