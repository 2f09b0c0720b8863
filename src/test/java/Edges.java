import java.io.IOException;
import java.lang.reflect.InvocationTargetException;
import java.lang.reflect.Method;
import java.nio.file.Files;
import java.nio.file.Path;
import java.util.ArrayList;
import java.util.Comparator;
import java.util.List;

/** Runs every test of a class that Says which words of DOC.md it holds, and sees that these stand there. */
final class Edges {
    private static final Path DOC = Path.of("../shared/DOC.md");

    private Edges() {
    }

    static void run(Check c, Class<?> tests, int first, int last) throws IOException {
        List<Method> all = new ArrayList<>();
        for (Method m : tests.getDeclaredMethods()) {
            if (m.isAnnotationPresent(Says.class)) {
                all.add(m);
            }
        }
        all.sort(Comparator.comparing((Method m) -> m.getAnnotation(Says.class).promise()).thenComparing(Method::getName));
        int[] perPromise = new int[last + 1];
        String doc = Files.exists(DOC) ? plain(Files.readString(DOC)) : null;
        for (Method m : all) {
            Says says = m.getAnnotation(Says.class);
            c.under(says.promise() + " " + m.getName() + " (" + says.words() + ")");
            c.due("its promise is told here", true, says.promise() >= first && says.promise() <= last);
            c.due("its words stand in DOC.md", true, doc == null || doc.contains(plain(says.words())));
            perPromise[says.promise()]++;
            run(c, m);
        }
        c.under("");
        for (int promise = first; promise <= last; promise++) {
            c.due("promise " + promise + " has tests", true, perPromise[promise] > 0);
        }
        System.out.print(all.size() + " tests, ");
        c.finish();
    }

    private static void run(Check c, Method m) {
        try {
            m.setAccessible(true);
            m.invoke(null);
        } catch (InvocationTargetException e) {
            c.due("threw " + e.getCause(), false, true);
        } catch (IllegalAccessException e) {
            c.due("can't be called", false, true);
        }
    }

    private static String plain(String s) {
        return s.replaceAll("\\s+", " ");
    }
}
