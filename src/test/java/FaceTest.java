import java.io.IOException;
import java.lang.reflect.Constructor;
import java.lang.reflect.Field;
import java.lang.reflect.Method;
import java.lang.reflect.Modifier;
import java.nio.file.Files;
import java.nio.file.Path;
import java.util.Set;
import java.util.TreeSet;
import java.util.regex.Matcher;
import java.util.regex.Pattern;

/** The public face of the document, and rules of LANGUAGE.md that can be seen from outside. */
public final class FaceTest {
    private static final Answers ANSWERS = new Answers("FaceTest");
    private static final int MOST_CLASSES = 12;
    private static final int MOST_FIELDS = 20;
    private static final int MOST_PARAMETERS = 7;
    private static final int MOST_LINES = 60;

    private static final String[] FACE = {
        "int place(int)", "int way(int,int,int)", "int begin()", "int anew()", "int as(int,int)",
        "int weight(int,int)", "int lay(int,int)", "long grains(int)", "int due()", "int slide(int)",
        "int manner(int,int)", "int run(int)", "long odometer(int)", "int reset()", "int twoWay()",
        "int burn()", "int burnt(int)", "int keep(int)", "int bring(int)", "int plus(int,int,int)",
        "int nought(int)", "int contrary(int,int)", "int many(int)", "int list()", "int listed(int,int)",
        "int terrace(int,int,int)", "long put(int,int,long)", "int copy(int,int,int,int,int)",
        "int spread(int,int,int,int)", "int tell(int)", "int enough()", "int check()", "int undo()",
        "int told(int)",
    };

    private static final String[] RULED_OUT = {
        "throw", "throws", "try", "catch", "finally", "synchronized", "assert", "import", "package", "protected",
        "Object", "System.out", "System.exit", "hashCode", "toString", "volatile", "Thread",
    };

    private static final Set<String> LIBRARY = Set.of("System.arraycopy", "Math.max", "Math.min", "Math.floorMod",
            "Long.MIN_VALUE");

    public static void main(String[] args) throws IOException {
        face();
        members();
        classesInside();
        String code = codeAlone();
        words(code);
        library(code);
        lengths(code);
        ANSWERS.end();
    }

    private static void holds(String what, boolean it) {
        ANSWERS.due(what, it ? 1 : 0, 1);
    }

    private static String signature(Method m) {
        StringBuilder text = new StringBuilder(m.getReturnType().getName()).append(' ').append(m.getName()).append('(');
        for (int i = 0; i < m.getParameterCount(); i++) {
            text.append(i == 0 ? "" : ",").append(m.getParameterTypes()[i].getName());
        }
        return text.append(')').toString();
    }

    private static void face() {
        Set<String> due = new TreeSet<>(Set.of(FACE));
        Set<String> got = new TreeSet<>();
        for (Method m : ScreeCourt.class.getDeclaredMethods()) {
            if (Modifier.isPublic(m.getModifiers())) {
                got.add(signature(m));
                holds(m.getName() + " is no static method", !Modifier.isStatic(m.getModifiers()));
            }
        }
        holds("the public methods are those of the document: " + got, got.equals(due));
        holds("the class is public and final",
                Modifier.isPublic(ScreeCourt.class.getModifiers()) && Modifier.isFinal(ScreeCourt.class.getModifiers()));
        Constructor<?>[] made = ScreeCourt.class.getDeclaredConstructors();
        holds("one constructor, public, without parameters", made.length == 1 && made[0].getParameterCount() == 0
                && Modifier.isPublic(made[0].getModifiers()));
    }

    private static void members() {
        Set<String> publicNames = new TreeSet<>();
        for (String signature : FACE) {
            publicNames.add(signature.substring(signature.indexOf(' ') + 1, signature.indexOf('(')));
        }
        for (Field f : ScreeCourt.class.getDeclaredFields()) {
            holds("field " + f.getName() + " is private", Modifier.isPrivate(f.getModifiers()));
        }
        for (Method m : ScreeCourt.class.getDeclaredMethods()) {
            int how = m.getModifiers();
            holds("method " + m.getName() + " is public or private", Modifier.isPublic(how) || Modifier.isPrivate(how));
            holds("private " + m.getName() + " has a name of its own",
                    Modifier.isPublic(how) || !publicNames.contains(m.getName()));
        }
        for (Class<?> inside : ScreeCourt.class.getDeclaredClasses()) {
            for (Method m : inside.getDeclaredMethods()) {
                holds(inside.getName() + "." + m.getName() + " has a name of its own", !publicNames.contains(m.getName()));
            }
        }
    }

    private static void classesInside() {
        Class<?>[] inside = ScreeCourt.class.getDeclaredClasses();
        holds("not too many classes", inside.length + 1 <= MOST_CLASSES);
        for (Class<?> c : inside) {
            int how = c.getModifiers();
            holds(c.getName() + " is static", Modifier.isStatic(how));
            holds(c.getName() + " is neither public nor protected", !Modifier.isPublic(how) && !Modifier.isProtected(how));
            sizes(c);
        }
        sizes(ScreeCourt.class);
    }

    private static void sizes(Class<?> c) {
        int fields = 0;
        for (Field f : c.getDeclaredFields()) {
            if (Modifier.isStatic(f.getModifiers())) {
                holds("static " + f.getName() + " is final", Modifier.isFinal(f.getModifiers()));
            } else {
                fields++;
            }
        }
        holds(c.getName() + " has not too many fields", fields <= MOST_FIELDS);
        for (Method m : c.getDeclaredMethods()) {
            holds(m.getName() + " has not too many parameters", m.getParameterCount() <= MOST_PARAMETERS);
        }
    }

    /** The source with its lines, but without its comments. */
    private static String codeAlone() throws IOException {
        String source = Files.readString(Path.of("src/main/java/ScreeCourt.java"));
        return source.replaceAll("(?s)/\\*.*?\\*/", " ").replaceAll("//[^\n]*", " ");
    }

    private static void words(String code) {
        for (String word : RULED_OUT) {
            holds("no " + word, !Pattern.compile("\\b" + Pattern.quote(word) + "\\b").matcher(code).find());
        }
        holds("no lambda", !code.contains("->"));
        holds("no method reference", !code.contains("::"));
        holds("no library function that ends in Exact", !code.contains("Exact("));
        holds("no text", !code.contains("\""));
    }

    private static void library(String code) {
        Matcher use = Pattern.compile("\\b[A-Z][A-Za-z]*\\.\\w+").matcher(code);
        while (use.find()) {
            holds("the library has " + use.group() + " for us", LIBRARY.contains(use.group()));
        }
    }

    /** Methods of the class stand 4 columns in, those of the classes inside it 8. */
    private static void lengths(String code) {
        int methods = 0;
        for (String in : new String[] {"    ", "        "}) {
            Matcher method = Pattern.compile("(?sm)^" + in + "[\\w][^;={}]*\\) \\{\n(.*?)^" + in + "}").matcher(code);
            while (method.find()) {
                methods++;
                String head = method.group().substring(0, method.group().indexOf('{')).trim();
                holds(head + " is short", method.group(1).lines().count() <= MOST_LINES);
            }
        }
        holds("methods are found: " + methods, methods > FACE.length);
    }
}
