import java.io.IOException;
import java.lang.reflect.Field;
import java.lang.reflect.Method;
import java.lang.reflect.Modifier;
import java.nio.file.Files;
import java.nio.file.Path;
import java.util.TreeSet;
import java.util.regex.Matcher;
import java.util.regex.Pattern;

/** The public face, and those rules of LANGUAGE.md that can be seen in the text or by reflection. */
public final class FaceTest {
    private static final Check CHECK = new Check("FaceTest");
    private static final String[] FACE = {
        "int ask(int)", "int chain(int,int,int)", "int count(int)", "boolean end(int)", "int fault()",
        "int feed(int,int,int,int,int)", "int file(int,int)", "int flux(int,int,int,int,int)", "int format()",
        "int found(int,int,int)", "int gaps(int)", "int hope(int)", "int mishaps(int)", "int next(int,int)",
        "int raw(int,int,int)", "int read(int)", "int status(int,int,int)", "boolean tell(int,int,int)", "int tuned(int,int)",
        "int value(int,int,int)", "int wipe()", "int written(int,int,int)"};

    public static void main(String[] args) throws IOException {
        face();
        members();
        text(Files.readString(Path.of("src/main/java/ClickingDisk.java")));
        CHECK.close();
    }

    private static String told(Method m) {
        StringBuilder out = new StringBuilder(m.getReturnType() + " " + m.getName() + "(");
        for (int i = 0; i < m.getParameterCount(); i++) {
            out.append(i == 0 ? "" : ",").append(m.getParameterTypes()[i]);
        }
        return out.append(")").toString();
    }

    private static void face() {
        TreeSet<String> open = new TreeSet<>();
        TreeSet<String> names = new TreeSet<>();
        for (Method m : ClickingDisk.class.getDeclaredMethods()) {
            if (!Modifier.isPrivate(m.getModifiers())) {
                open.add(told(m));
                names.add(m.getName());
            }
        }
        CHECK.due("the methods " + open, open.equals(new TreeSet<>(java.util.List.of(FACE))), true);
        CHECK.due("the class is final", Modifier.isFinal(ClickingDisk.class.getModifiers()), true);
        CHECK.due("one constructor", ClickingDisk.class.getDeclaredConstructors().length, 1);
        for (Method m : ClickingDisk.class.getDeclaredMethods()) {
            CHECK.due("rule 1: " + told(m), Modifier.isPrivate(m.getModifiers()) && names.contains(m.getName()), false);
        }
        for (Class<?> inner : ClickingDisk.class.getDeclaredClasses()) {
            CHECK.due("rule 1: static " + inner, Modifier.isStatic(inner.getModifiers()), true);
            CHECK.due("rule 1: not open " + inner, inner.getModifiers() & (Modifier.PUBLIC | Modifier.PROTECTED), 0);
            for (Method m : inner.getDeclaredMethods()) {
                CHECK.due("rule 1: the name of " + inner + " " + m.getName(), names.contains(m.getName()), false);
                CHECK.due("rule 11: parameters of " + m, m.getParameterCount() <= 7, true);
            }
        }
    }

    private static void members() {
        CHECK.due("rule 11: classes", ClickingDisk.class.getDeclaredClasses().length <= 11, true);
        fields(ClickingDisk.class);
        for (Class<?> inner : ClickingDisk.class.getDeclaredClasses()) {
            fields(inner);
        }
        for (Field f : ClickingDisk.class.getDeclaredFields()) {
            boolean open = !Modifier.isPrivate(f.getModifiers());
            CHECK.due("rule 1: open field " + f, open && !f.getName().equals("NONE"), false);
        }
    }

    private static void fields(Class<?> of) {
        int own = 0;
        for (Field f : of.getDeclaredFields()) {
            if (Modifier.isStatic(f.getModifiers())) {
                CHECK.due("rule 5: " + f, Modifier.isFinal(f.getModifiers()), true);
            } else {
                own++;
            }
        }
        CHECK.due("rule 11: fields of " + of, own <= 20, true);
    }

    private static void text(String source) {
        String bare = source.replaceAll("(?s)/\\*.*?\\*/", "").replaceAll("//[^\n]*", "");
        String[] banned = {"\\btry\\b", "\\bcatch\\b", "\\bthrow\\b", "\\bsynchronized\\b", "\\bassert\\b", "->", "::", "Exact\\(",
            "\\bSystem\\.(?!arraycopy)", "\\bfloat\\b", "\\bdouble\\b", "\\bthread\\b", "\\bpackage\\b", "@", "\\bstatic \\{",
            "\\bimport (?!java\\.util\\.(Arrays|ArrayList|List|Iterator);)", "\\bhashCode\\b", "\\btoString\\b"};
        for (String pattern : banned) {
            Matcher m = Pattern.compile(pattern).matcher(bare);
            CHECK.due("no " + pattern, m.find(), false);
        }
        int longest = 0;
        int since = 0;
        for (String line : source.split("\n")) {
            since++;
            if (line.matches(" {4,8}(public|private|void|int|boolean)[^=;]*\\{")) {
                since = 0;
            }
            if (line.matches(" {4,8}\\}")) {
                longest = Math.max(longest, since);
                since = 0;
            }
            CHECK.due("a line of at most 120 signs: " + line, line.length() <= 120, true);
        }
        CHECK.due("rule 11: methods of at most sixty lines", longest <= 60, true);
    }
}
