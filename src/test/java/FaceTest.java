import java.lang.reflect.Field;
import java.lang.reflect.Method;
import java.lang.reflect.Modifier;
import java.nio.charset.StandardCharsets;
import java.nio.file.Files;
import java.nio.file.Path;
import java.util.List;
import java.util.TreeSet;
import java.util.regex.Pattern;

/** The document's face, no more and no less, and what of LANGUAGE.md can be seen from outside. */
public final class FaceTest {
    private static final List<String> METHODS = List.of(
        "int letters(long)", "int blank()", "int fault(int)", "int rule()", "int replies(int,int)",
        "int member(int,int,int,int,int)", "int speech(int,int,int)", "int about(int,int)",
        "int as(int,int)", "int chair(int,int)", "int may(int)", "int rise(int)", "int down()",
        "int at(int)", "int bill()", "int debate(int)", "int nails()", "int shook()",
        "int order(int,int)", "int laws(int,int)", "int changed()", "int midnight(int)",
        "int sessions(int,int,int)", "int image()", "int restore()", "int count(int)", "long digest()");
    private static final List<String> FIELDS = List.of("FULL", "NONE", "OUTSIDE", "STATE", "UNKNOWN");
    private static final List<String> RULED_OUT = List.of(
        "throw", "throws", "try", "catch", "finally", "synchronized", "assert", "import", "package",
        "->", "::", "System.out", "Object", "toString", "equals", "hashCode", "Override");

    private static final Checks c = new Checks();

    public static void main(String[] args) throws Exception {
        c.part("face");
        Class<?> face = TopSpeaks.class;
        same("methods", face(face.getDeclaredMethods()), new TreeSet<>(METHODS));
        same("fields", face(face.getDeclaredFields()), new TreeSet<>(FIELDS));
        c.due("public and final", face.getModifiers() & (Modifier.PUBLIC | Modifier.FINAL), 17);
        c.due("constructors", face.getDeclaredConstructors().length, 1);
        c.due("the constructor", face.getDeclaredConstructor().getModifiers(), Modifier.PUBLIC);
        TreeSet<String> names = new TreeSet<>();
        METHODS.forEach(m -> names.add(m.substring(m.indexOf(' ') + 1, m.indexOf('('))));
        for (Method method : face.getDeclaredMethods()) {
            boolean borrowed = Modifier.isPrivate(method.getModifiers()) && names.contains(method.getName());
            c.due("a private " + method.getName(), borrowed ? 1 : 0, 0);
        }
        statics(face);
        c.due("few fields", fields(face) <= 20 ? 1 : 0, 1);
        for (Class<?> inside : face.getDeclaredClasses()) {
            c.due(inside.getName() + " is static", inside.getModifiers() & Modifier.STATIC, Modifier.STATIC);
            c.due(inside.getName() + " is not public", inside.getModifiers() & Modifier.PUBLIC, 0);
            c.due(inside.getName() + " has few fields", fields(inside) <= 20 ? 1 : 0, 1);
            statics(inside);
            for (Method method : inside.getDeclaredMethods()) {
                c.due(inside.getName() + "'s " + method.getName(), names.contains(method.getName()) ? 1 : 0, 0);
            }
        }
        c.due("few classes", face.getDeclaredClasses().length < 12 ? 1 : 0, 1);
        source(args.length > 0 ? args[0] : "src/main/java/TopSpeaks.java");
        c.end();
    }

    private static TreeSet<String> face(Method[] methods) {
        TreeSet<String> seen = new TreeSet<>();
        for (Method m : methods) {
            if (!Modifier.isPrivate(m.getModifiers()) && !m.isSynthetic()) {
                StringBuilder told = new StringBuilder(m.getReturnType() + " " + m.getName() + "(");
                for (Class<?> type : m.getParameterTypes()) {
                    told.append(told.charAt(told.length() - 1) == '(' ? "" : ",").append(type);
                }
                seen.add(told + ")");
                c.due(m.getName() + " is public", m.getModifiers(), Modifier.PUBLIC);
            }
        }
        return seen;
    }

    private static TreeSet<String> face(Field[] fields) {
        TreeSet<String> seen = new TreeSet<>();
        for (Field f : fields) {
            if (!Modifier.isPrivate(f.getModifiers())) {
                seen.add(f.getName());
                c.due(f.getName(), f.getModifiers(), Modifier.PUBLIC | Modifier.STATIC | Modifier.FINAL);
            }
        }
        return seen;
    }

    /** How many fields beside the constants. */
    private static int fields(Class<?> of) {
        int many = 0;
        for (Field f : of.getDeclaredFields()) {
            many += Modifier.isStatic(f.getModifiers()) ? 0 : 1;
        }
        return many;
    }

    private static void statics(Class<?> of) {
        for (Field f : of.getDeclaredFields()) {
            boolean moves = Modifier.isStatic(f.getModifiers()) && !Modifier.isFinal(f.getModifiers());
            c.due(of.getName() + "." + f.getName() + " is static and not final", moves ? 1 : 0, 0);
        }
    }

    private static void same(String what, TreeSet<String> seen, TreeSet<String> want) {
        c.due(what + " " + seen + " against " + want, seen.equals(want) ? 1 : 0, 1);
    }

    private static void source(String path) throws Exception {
        c.part("source");
        String text = Files.readString(Path.of(path), StandardCharsets.US_ASCII);
        String code = text.replaceAll("(?s)/\\*.*?\\*/", "").replaceAll("//[^\n]*", "");
        for (String word : RULED_OUT) {
            String pattern = Character.isLetter(word.charAt(0)) ? "\\b" + word + "\\b" : word;
            c.due(word, Pattern.compile(pattern).matcher(code).results().count(), 0);
        }
    }
}
