import java.io.IOException;
import java.lang.management.ManagementFactory;
import java.lang.reflect.Field;
import java.lang.reflect.Method;
import java.lang.reflect.Modifier;
import java.util.List;
import java.util.Set;
import java.util.TreeSet;

/** Rules of LANGUAGE.md that can be looked up: sizes, words that are not used, what a run makes. */
public final class LanguageTest {
    public static void main(String[] args) throws IOException {
        classes();
        source();
        room();
        Check.end();
    }

    private static void classes() {
        Set<String> names = new TreeSet<>();
        for (Method m : WakePark.class.getMethods()) {
            names.add(m.getName());
        }
        Class<?>[] inside = WakePark.class.getDeclaredClasses();
        Check.is("some twelve classes: " + inside.length, inside.length <= 12);
        for (Class<?> c : inside) {
            Check.is("static " + c, Modifier.isStatic(c.getModifiers()));
            look(c);
            for (Method m : c.getDeclaredMethods()) {
                Check.isNot("a public name " + m, !c.isEnum() && names.contains(m.getName()));
            }
        }
        look(WakePark.class);
    }

    private static void look(Class<?> c) {
        int fields = 0;
        for (Field f : c.getDeclaredFields()) {
            boolean fixed = Modifier.isStatic(f.getModifiers());
            fields += fixed ? 0 : 1;
            Check.is("final " + f, !fixed || Modifier.isFinal(f.getModifiers()));
        }
        Check.is("fields of " + c + ": " + fields, fields <= 20);
        for (Method m : c.getDeclaredMethods()) {
            Check.is("parameters of " + m, m.getParameterCount() <= 7);
        }
    }

    private static void source() throws IOException {
        List<String> lines = List.of(Pages.source().split("\n"));
        int start = 0;
        for (int i = 0; i < lines.size(); i++) {
            String line = lines.get(i);
            if (line.startsWith("import ")) {
                Check.is(line, line.equals("import java.util.Arrays;") || line.equals("import java.util.NoSuchElementException;"));
            }
            for (String word : new String[] {"->", "::", "catch", "finally", "synchronized", "assert ", "Exact(", "try {",
                "Object ", "System.out", "hashCode", "equals(", "toString", "package ", "float", "double", "static {"}) {
                Check.isNot(word + " in line " + (i + 1), line.contains(word));
            }
            if (line.matches(" {4,8}(public|private|static|void|int|boolean|long|Word)\\b.*\\) .*\\{")) {
                start = i;
            }
            if (line.matches(" {4}( {4})?\\}")) {
                Check.is("a short method at line " + (start + 1), i - start < 60);
                start = i;
            }
        }
    }

    /** All calls of one run live in one room: a run of the dearest calls makes next to nothing. */
    private static void room() {
        com.sun.management.ThreadMXBean bean = (com.sun.management.ThreadMXBean) ManagementFactory.getThreadMXBean();
        long thread = Thread.currentThread().getId();
        runOf512();
        long before = bean.getThreadAllocatedBytes(thread);
        WakePark made = new WakePark();
        long between = bean.getThreadAllocatedBytes(thread);
        Check.is("an object is small: " + (between - before), between - before < 60_000);
        Check.same("it is there", made.count(0), 0);
        before = bean.getThreadAllocatedBytes(thread);
        runOf512();
        long all = bean.getThreadAllocatedBytes(thread) - before;
        Check.is("a run is small: " + all, all < 250_000);
    }

    private static void runOf512() {
        WakePark x = Check.told("turbine a plain of 1 at 2;turbine b plain of 1 at 8;turbine c plain of 1 at 14;"
            + "turbine d plain of 1 at 20;turbine e plain of 1 at 26;turbine f plain of 1 at 32;cable a home holds 99;wears 99;");
        for (int i = 0; i < 40; i++) {
            x.turn(i % 6, i % 5);
            x.best(-1);
            x.alone(1, 0);
            x.winds(0);
            x.ask();
            x.days(i, 99, 0);
            x.step();
            x.mark(i % 4, i % 3 == 0);
            x.later(60);
            x.judged(2);
            x.idle();
            x.undo();
        }
    }
}
