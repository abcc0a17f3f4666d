import java.io.IOException;
import java.lang.reflect.Constructor;
import java.lang.reflect.Field;
import java.lang.reflect.Method;
import java.lang.reflect.Modifier;
import java.nio.file.Files;
import java.nio.file.Path;
import java.util.Set;
import java.util.TreeSet;
import java.util.regex.Matcher;
import java.util.regex.Pattern;

/** The public face, and the rules of LANGUAGE.md that can be seen from outside or in the text of the program. */
public final class FaceTest {
    private static final Checks C = new Checks("FaceTest");
    private static final String FACE = """
        int place(int), int step(int), int arc(int,int,int,int), int start(int,int), int cost(int,int), int line(int,int,int),
        int draw(int,int,int), int anew(), int of(int,int), int arcOf(int,int,int), int stepOf(int,int), int can(int),
        int goes(int), int runs(int,int), int restarts(), int loses(int), int returns(int), int keeper(int), int sums(),
        int sum(int,int), int value(int,int), int stucks(), int stuck(int,int), int sort(int), int guard(int,int),
        int guards(), int drop(int), int guardOf(int,int), int all(int), long found(int,int), int home(int), int type(int),
        int clear(), int reads(), int back(), int told(int), long digest()""";

    public static void main(String[] args) throws IOException {
        face();
        constants();
        nested();
        source(Files.readString(Path.of("src/main/java/PalletNets.java")));
        C.end();
    }

    private static void face() {
        Set<String> due = new TreeSet<>(Set.of(FACE.trim().split(",\\s+")));
        Set<String> got = new TreeSet<>();
        for (Method m : PalletNets.class.getDeclaredMethods()) {
            if (!Modifier.isPrivate(m.getModifiers())) {
                StringBuilder s = new StringBuilder(m.getReturnType() + " " + m.getName() + "(");
                for (Class<?> p : m.getParameterTypes()) {
                    s.append(s.charAt(s.length() - 1) == '(' ? "" : ",").append(p);
                }
                got.add(s.append(")").toString());
                C.due(m.getName() + " is public and not static", m.getModifiers(), Modifier.PUBLIC);
            }
        }
        C.isTrue("the methods are " + due + ", and got " + got, due.equals(got));
        Constructor<?>[] made = PalletNets.class.getDeclaredConstructors();
        C.due("constructors", made.length, 1);
        C.due("constructor's parameters", made[0].getParameterCount(), 0);
        C.due("constructor is public", made[0].getModifiers(), Modifier.PUBLIC);
        C.due("the class is public and final", PalletNets.class.getModifiers(), Modifier.PUBLIC | Modifier.FINAL);
    }

    private static void constants() {
        C.due("NONE", PalletNets.NONE, -1);
        C.due("BAD", PalletNets.BAD, -2);
        C.due("NO", PalletNets.NO, -3);
        C.due("FULL", PalletNets.FULL, -4);
        Set<String> open = new TreeSet<>();
        for (Field f : PalletNets.class.getDeclaredFields()) {
            if (!Modifier.isPrivate(f.getModifiers())) {
                open.add(f.getName());
            }
        }
        C.isTrue("fields that are not private: " + open, open.equals(Set.of("NONE", "BAD", "NO", "FULL")));
    }

    private static void nested() {
        Set<String> face = new TreeSet<>();
        for (Method m : PalletNets.class.getDeclaredMethods()) {
            if (Modifier.isPublic(m.getModifiers())) {
                face.add(m.getName());
            }
        }
        for (Class<?> k : PalletNets.class.getDeclaredClasses()) {
            C.isTrue(k + " is static", Modifier.isStatic(k.getModifiers()));
            C.isTrue(k + " is not public", !Modifier.isPublic(k.getModifiers()));
            int fields = 0;
            for (Field f : k.getDeclaredFields()) {
                boolean fixed = Modifier.isStatic(f.getModifiers());
                C.isTrue(k + "." + f.getName() + " is final if static", !fixed || Modifier.isFinal(f.getModifiers()));
                fields += fixed ? 0 : 1;
            }
            C.isTrue(k + " has " + fields + " fields", fields <= 20);
            for (Method m : k.getDeclaredMethods()) {
                C.isTrue(k + "." + m.getName() + " has a name of its own", !face.contains(m.getName()));
                C.isTrue(k + "." + m.getName() + " has few parameters", m.getParameterCount() <= 7);
            }
        }
        for (Method m : PalletNets.class.getDeclaredMethods()) {
            C.isTrue(m.getName() + " has a name of its own", !Modifier.isPrivate(m.getModifiers()) || !face.contains(m.getName()));
        }
        C.isTrue("twelve classes at most", PalletNets.class.getDeclaredClasses().length < 12);
    }

    private static void source(String text) {
        String code = text.replaceAll("(?s)/\\*.*?\\*/", "").replaceAll("//[^\n]*", "");
        Matcher forbidden = Pattern.compile(
            "\\b(throw|try|catch|synchronized|assert|package|Exact|protected|equals|hashCode|toString)\\b|->|::|\"").matcher(code);
        C.isTrue("no forbidden word, or it is " + (forbidden.find() ? forbidden.group() : ""), !forbidden.reset().find());
        Matcher imports = Pattern.compile("import ([^;]*);").matcher(code);
        while (imports.find()) {
            C.isTrue("import " + imports.group(1), imports.group(1).equals("java.util.Arrays"));
        }
        Matcher made = Pattern.compile("\\bnew\\b[^;]*;").matcher(code);
        int news = 0;
        while (made.find()) {
            news++;
        }
        Matcher begun = Pattern.compile("(?m)^(?:    |        )\\S[^;=]*\\) \\{$").matcher(code);
        while (begun.find()) {
            String indent = begun.group().startsWith("        ") ? "        " : "    ";
            int end = code.indexOf("\n" + indent + "}", begun.end());
            long lines = code.substring(begun.start(), end).lines().count();
            C.isTrue(begun.group().trim() + " has " + lines + " lines", lines <= 60);
        }
        C.isTrue("objects are made in fields and the constructor alone: " + news, news == code.split("= new ", -1).length - 1);
    }
}
