import java.io.IOException;
import java.lang.reflect.Constructor;
import java.lang.reflect.Field;
import java.lang.reflect.Method;
import java.lang.reflect.Modifier;
import java.util.ArrayList;
import java.util.List;
import java.util.Set;
import java.util.TreeSet;
import java.util.regex.Matcher;
import java.util.regex.Pattern;

/** The public face, as the document shows it: names, parameters, the constant, what rests throws, and nothing else. */
public final class FaceTest {
    private static final Pattern METHOD = Pattern.compile("public (\\w+) (\\w+)\\((.*)\\)(?: throws (\\w+))?;");
    private static final int METHODS = 39;

    public static void main(String[] args) throws IOException, ReflectiveOperationException {
        List<String> face = faceOfTheDocument();
        methods(face);
        names(face);
        theConstant(face);
        theConstructor(face);
        nothingElse();
        Check.end();
    }

    private static List<String> faceOfTheDocument() throws IOException {
        List<String> face = new ArrayList<>();
        for (String line : Pages.blocks(Pages.document(), "java").get(0).split("\n")) {
            if (line.startsWith("    public ")) {
                face.add(line.trim());
            }
        }
        Check.same("lines of the face", face.size(), METHODS + 2);
        return face;
    }

    private static void methods(List<String> face) {
        Set<String> due = new TreeSet<>();
        for (String line : face) {
            Matcher m = METHOD.matcher(line);
            if (m.matches()) {
                String types = m.group(3).replaceAll("(\\w+) \\w+", "$1").replace(" ", "");
                due.add(m.group(1) + " " + m.group(2) + "(" + types + ")" + (m.group(4) == null ? "" : m.group(4)));
            }
        }
        Check.same("methods of the face", due.size(), METHODS);
        Set<String> got = new TreeSet<>();
        for (Method m : WakePark.class.getDeclaredMethods()) {
            if (Modifier.isPublic(m.getModifiers())) {
                Check.isNot("static " + m, Modifier.isStatic(m.getModifiers()));
                got.add(m.getReturnType().getName() + " " + m.getName() + "(" + simpleNames(m.getParameterTypes()) + ")"
                    + simpleNames(m.getExceptionTypes()));
            }
        }
        Check.is("the face is " + got + ", due is " + due, got.equals(due));
    }

    private static String simpleNames(Class<?>[] types) {
        List<String> names = new ArrayList<>();
        for (Class<?> type : types) {
            names.add(type.getSimpleName());
        }
        return String.join(",", names);
    }

    /** Names of parameters are not in a class file, so they are looked up in the source. */
    private static void names(List<String> face) throws IOException {
        String source = Pages.source();
        for (String line : face) {
            if (line.contains("(")) {
                String head = line.substring(0, line.length() - 1);
                Check.is("as the document shows it: " + head, source.contains("\n    " + head + " {\n"));
            }
        }
    }

    private static void theConstant(List<String> face) throws ReflectiveOperationException {
        Check.is("the document's constant", face.contains("public static final int NONE = -1;"));
        Field none = WakePark.class.getDeclaredField("NONE");
        Check.same("public static final", none.getModifiers(), Modifier.PUBLIC | Modifier.STATIC | Modifier.FINAL);
        Check.is("an int", none.getType() == int.class);
        Check.same("NONE", none.getInt(null), -1);
    }

    private static void theConstructor(List<String> face) {
        Check.is("the document's constructor", face.contains("public WakePark();"));
        Constructor<?>[] made = WakePark.class.getDeclaredConstructors();
        Check.is("one constructor", made.length == 1 && made[0].getParameterCount() == 0
            && made[0].getExceptionTypes().length == 0 && made[0].getModifiers() == Modifier.PUBLIC);
    }

    private static void nothingElse() {
        Check.same("public final", WakePark.class.getModifiers(), Modifier.PUBLIC | Modifier.FINAL);
        Check.is("no package", WakePark.class.getPackageName().isEmpty());
        Check.is("nothing above it", WakePark.class.getSuperclass() == Object.class
            && WakePark.class.getInterfaces().length == 0);
        for (Method m : WakePark.class.getDeclaredMethods()) {
            Check.is("public or private " + m, Modifier.isPublic(m.getModifiers()) || Modifier.isPrivate(m.getModifiers()));
        }
        for (Field f : WakePark.class.getDeclaredFields()) {
            Check.is("private " + f, f.getName().equals("NONE") || Modifier.isPrivate(f.getModifiers()));
        }
    }
}
