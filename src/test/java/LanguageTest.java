import java.lang.reflect.Constructor;
import java.lang.reflect.Field;
import java.lang.reflect.Method;
import java.lang.reflect.Modifier;
import java.nio.file.Files;
import java.nio.file.Path;
import java.util.ArrayList;
import java.util.Arrays;
import java.util.List;
import java.util.TreeSet;
import java.util.regex.Matcher;
import java.util.regex.Pattern;

/** What of LANGUAGE.md can be seen from the source and the compiled class; run from the project's root. */
public final class LanguageTest {
    private static final String FACE = "alike(int) back(int) blank(int,int,int) clear() count(int) different(int,int) "
        + "forget() hangs(int,int) judged(int) keep(int) leftOf(int,int) line(int,int) page(int) place(int,int) puts(int) "
        + "sees(int,int) sets(int,int) takes() type(int) undo() unseen(int) wide(int,int) word(int,int) words()";
    private static int wrong = 0;

    private static void holds(String what, boolean so) {
        if (!so) {
            wrong++;
            System.out.println("not so: " + what);
        }
    }

    public static void main(String[] args) throws Exception {
        face();
        classes();
        source();
        System.out.println(wrong == 0 ? "the form is as due" : wrong + " rules are broken");
        if (wrong != 0) System.exit(1);
    }

    private static void face() {
        Class<?> c = HungMargins.class;
        TreeSet<String> methods = new TreeSet<>();
        TreeSet<String> names = new TreeSet<>();
        for (Method m : c.getDeclaredMethods()) {
            if (Modifier.isPrivate(m.getModifiers())) continue;
            holds("public method " + m, Modifier.isPublic(m.getModifiers()) && !Modifier.isStatic(m.getModifiers())
                && m.getReturnType() == int.class);
            methods.add(m.getName() + "(" + String.join(",", Arrays.stream(m.getParameterTypes()).map(Class::getName).toList()) + ")");
            names.add(m.getName());
        }
        holds("the methods are the document's: " + methods, String.join(" ", methods).equals(FACE));
        TreeSet<String> fields = new TreeSet<>();
        for (Field f : c.getDeclaredFields()) {
            if (!Modifier.isPrivate(f.getModifiers())) fields.add(f.getName());
        }
        holds("the constants are the document's: " + fields, fields.toString().equals("[BAD, FULL, NO, NONE, STATE]"));
        Constructor<?>[] made = c.getDeclaredConstructors();
        holds("one public constructor", made.length == 1 && Modifier.isPublic(made[0].getModifiers()) && made[0].getParameterCount() == 0);
        holds("public and final", Modifier.isPublic(c.getModifiers()) && Modifier.isFinal(c.getModifiers()));
        for (Class<?> d : all()) {
            for (Method m : d.getDeclaredMethods()) {
                boolean own = d == c && !Modifier.isPrivate(m.getModifiers());
                holds("no other method is named as a public one: " + m, own || !names.contains(m.getName()));
            }
        }
    }

    private static List<Class<?>> all() {
        List<Class<?>> all = new ArrayList<>();
        all.add(HungMargins.class);
        all.addAll(Arrays.asList(HungMargins.class.getDeclaredClasses()));
        return all;
    }

    private static void classes() {
        holds("at most twelve classes", all().size() <= 12);
        for (Class<?> c : all()) {
            if (c != HungMargins.class) {
                holds("static, not public: " + c, Modifier.isStatic(c.getModifiers()) && !Modifier.isPublic(c.getModifiers()));
            }
            int held = 0;
            for (Field f : c.getDeclaredFields()) {
                boolean fixed = Modifier.isStatic(f.getModifiers());
                held += fixed ? 0 : 1;
                holds("static and not final: " + f, !fixed || Modifier.isFinal(f.getModifiers()));
            }
            holds("at most twenty fields: " + c, held <= 20);
            for (Method m : c.getDeclaredMethods()) {
                holds("at most seven parameters: " + m, m.getParameterCount() <= 7);
                holds("nothing made by the compiler: " + m, !m.isSynthetic());
            }
        }
    }

    private static void source() throws Exception {
        String text = Files.readString(Path.of("src/main/java/HungMargins.java"));
        String code = text.replaceAll("(?s)/\\*.*?\\*/", "").replaceAll("//[^\n]*", "");
        String[] barred = {"\\bimport\\b", "\\bpackage\\b", "\\bthrow\\b", "\\bthrows\\b", "\\btry\\b", "\\bcatch\\b",
            "\\bsynchronized\\b", "\\bassert\\b", "->", "::", "\\bstatic\\s*\\{", "Exact\\b", "\\bObject\\b", "\\bvar\\b",
            "\\bhashCode\\b", "\\btoString\\b", "\\bdouble\\b", "\\bfloat\\b", "@"};
        for (String b : barred) {
            Matcher m = Pattern.compile(b).matcher(code);
            holds("no " + b, !m.find());
        }
        for (char c : text.toCharArray()) {
            if (c > 126) holds("signs 1 to 127 alone: " + (int) c, false);
        }
        int at = 0;
        for (String line : code.split("\n")) {
            at++;
            // Rows are made once, with the object: no call makes anything.
            boolean inField = line.matches("\\s+private final [^(]*= new .*") || line.contains("items = new int[");
            holds("nothing is made by a call: " + line.trim(), !line.matches(".*\\bnew\\b.*") || inField);
        }
        holds("there is a source", at > 100);
        methodLengths(code);
    }

    private static void methodLengths(String code) {
        int start = 0;
        String[] lines = code.split("\n");
        for (int i = 0; i < lines.length; i++) {
            if (lines[i].matches("\\s+[^=;]*\\) \\{") && !lines[i].matches("\\s+(\\} else )?(if|for|while|switch).*")) start = i;
            if (lines[i].matches(" {4,8}\\}")) holds("a short method: " + lines[start].trim(), i - start <= 60 || lines[start].isBlank());
            if (lines[i].isBlank()) start = i;
        }
    }
}
