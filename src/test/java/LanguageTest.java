import java.io.IOException;
import java.lang.reflect.Constructor;
import java.lang.reflect.Field;
import java.lang.reflect.Method;
import java.lang.reflect.Modifier;
import java.nio.file.Files;
import java.nio.file.Path;
import java.util.Arrays;
import java.util.Set;
import java.util.TreeSet;
import java.util.regex.Matcher;
import java.util.regex.Pattern;

/** The face of the document, and those rules of LANGUAGE.md that can be seen from outside or by single words. */
public final class LanguageTest {
    private static final String[] FACE = {
        "int field()", "int of(int,int)", "int set(int,int,int)", "int join(int,int,boolean)", "int joined(int)",
        "int team(int,int)", "int teamOf(int,int)", "int pace(int,int)", "int as(int,int)",
        "int may(int,int,int,int,int,boolean)", "int best(int,int,int)", "int many(int,int)", "int barred(int)",
        "int missed(int,int)", "int stone(int,int)", "int gate(int,int,int)", "int whose(int)", "int lines(int)",
        "int late(int,int)", "int done(int,int)", "int yields(int)", "int row(int,int,int)", "int lacks(int)",
        "int feed(int,int)", "int wipe()", "int parish()", "int sheet(int,int,int)", "long write(int,int,long)",
        "int copy(int,int,int,int,int)", "int lays(int,int)", "int draw(int,int,int)", "int read(int,int,int)",
        "int image()", "int undo()", "int tear()", "int count(int)", "int status(int)"};
    private static final String[] FORBIDDEN = {
        "\\bthrow\\b", "\\btry\\b", "\\bcatch\\b", "\\bsynchronized\\b", "\\bassert\\b", "->", "::", "\\bstatic\\s*\\{",
        "Exact\\b", "MAX_VALUE", "MIN_VALUE", "\\bSystem\\.(?!arraycopy)", "\\bMath\\.(random|sqrt|pow|round)",
        "\\bpublic\\s+static\\b", "\\bprotected\\b", "\\bpackage\\b"};
    private static int wrong = 0;

    private static void must(String rule, boolean holds) {
        if (!holds) {
            wrong++;
            System.out.println("not so: " + rule);
        }
    }

    public static void main(String[] args) throws IOException {
        face();
        classesInside();
        words();
        System.out.println(wrong == 0 ? "all rules hold" : wrong + " rules do not hold");
        if (wrong != 0) {
            System.exit(1);
        }
    }

    private static String signature(Method m) {
        StringBuilder text = new StringBuilder(m.getReturnType().getName() + " " + m.getName() + "(");
        for (Class<?> type : m.getParameterTypes()) {
            text.append(text.charAt(text.length() - 1) == '(' ? "" : ",").append(type.getName());
        }
        return text.append(')').toString();
    }

    private static void face() {
        Class<?> c = OneFurrow.class;
        must("1: the class is public and final", Modifier.isPublic(c.getModifiers()) && Modifier.isFinal(c.getModifiers()));
        Set<String> due = new TreeSet<>(Arrays.asList(FACE));
        Set<String> names = new TreeSet<>();
        Set<String> found = new TreeSet<>();
        for (Method m : c.getDeclaredMethods()) {
            if (Modifier.isPublic(m.getModifiers())) {
                found.add(signature(m));
                names.add(m.getName());
            } else {
                must("1: private: " + m, Modifier.isPrivate(m.getModifiers()));
            }
        }
        must("1: the face is " + due + ", found " + found, due.equals(found));
        for (Method m : c.getDeclaredMethods()) {
            must("1: no private method bears a public name: " + m, Modifier.isPublic(m.getModifiers()) || !names.contains(m.getName()));
        }
        for (Class<?> inside : c.getDeclaredClasses()) {
            for (Method m : inside.getDeclaredMethods()) {
                must("1: no method inside bears a public name: " + m, !names.contains(m.getName()));
            }
        }
        for (Field f : c.getDeclaredFields()) {
            must("1: private: " + f, Modifier.isPrivate(f.getModifiers()));
        }
        Constructor<?>[] constructors = c.getDeclaredConstructors();
        must("1: one public constructor", constructors.length == 1 && Modifier.isPublic(constructors[0].getModifiers())
            && constructors[0].getParameterCount() == 0);
    }

    private static void classesInside() {
        Class<?>[] inside = OneFurrow.class.getDeclaredClasses();
        must("11: some twelve classes", inside.length <= 12);
        for (Class<?> c : inside) {
            must("2: static: " + c, Modifier.isStatic(c.getModifiers()) && !Modifier.isPublic(c.getModifiers()));
            sizes(c);
        }
        sizes(OneFurrow.class);
    }

    private static void sizes(Class<?> c) {
        int fields = 0;
        for (Field f : c.getDeclaredFields()) {
            boolean isStatic = Modifier.isStatic(f.getModifiers());
            fields += isStatic ? 0 : 1;
            must("5: static fields are final: " + f, !isStatic || Modifier.isFinal(f.getModifiers()));
        }
        must("11: some twenty fields: " + c, fields <= 20);
        for (Method m : c.getDeclaredMethods()) {
            must("11: seven parameters: " + m, m.getParameterCount() <= 7);
        }
    }

    private static void words() throws IOException {
        String source = Files.readString(Path.of("src/main/java/OneFurrow.java"));
        String code = source.replaceAll("(?s)/\\*.*?\\*/", "").replaceAll("//[^\n]*", "");
        for (String word : FORBIDDEN) {
            Matcher m = Pattern.compile(word).matcher(code);
            must("no " + word + " in the program", !m.find());
        }
        Matcher imports = Pattern.compile("import ([^;]+);").matcher(code);
        while (imports.find()) {
            must("4: imports only what is listed: " + imports.group(1), imports.group(1).equals("java.util.Arrays"));
        }
    }
}
