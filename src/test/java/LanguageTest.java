import java.io.IOException;
import java.lang.reflect.Constructor;
import java.lang.reflect.Field;
import java.lang.reflect.Method;
import java.lang.reflect.Modifier;
import java.nio.file.Files;
import java.nio.file.Path;
import java.util.Arrays;
import java.util.List;
import java.util.Set;
import java.util.TreeSet;
import java.util.regex.Pattern;

/** The document's face, and what can be seen of LANGUAGE.md from outside or in the source's words. */
public final class LanguageTest {
    private static final Check C = new Check();
    private static final String FACE = "state(int) int;person(int,int) int;set(int,int,int) boolean;tie(int,int,boolean) boolean;"
            + "sit(int) int;years(int) int;feed(int,int,int,int,int) int;end(int) boolean;text(int) int;fault(int) int;of(int,int) int;"
            + "after(int,int,boolean) int;work(int,int) int;book(int,int) int;does(int) boolean;plan(int,int,int) int;given(int,int) int;"
            + "can(int) int;fewest(int,int) int;hinge(int) int;turnsOf(int,int) int;traces(int,int) boolean;fits(int,int) int;"
            + "lookAt(int) int;share(int,int,int) int;bid(int,int) int;sold(int) int;rests(int) int;weekday(int,int,int,int) int;"
            + "next() int;due(int) int;doers(int) int;thieves() int;soonest(int) int;spread(int) int;way(int,int) int;clique(int) int;"
            + "undo() boolean;image(boolean) boolean;look(int) int";

    public static void main(String[] args) throws IOException {
        face();
        members(SpareDay.class);
        for (Class<?> inside : SpareDay.class.getDeclaredClasses()) {
            int modifiers = inside.getModifiers();
            C.due(inside + " is static", true, Modifier.isStatic(modifiers));
            C.due(inside + " is hidden", true, !Modifier.isPublic(modifiers) && !Modifier.isProtected(modifiers));
            members(inside);
        }
        C.due("classes", true, SpareDay.class.getDeclaredClasses().length < 12);
        words(Files.readString(Path.of("src/main/java/SpareDay.java")));
        C.finish();
    }

    private static void face() {
        Set<String> want = new TreeSet<>(Arrays.asList(FACE.split(";")));
        Set<String> has = new TreeSet<>();
        Set<String> names = new TreeSet<>();
        for (Method m : SpareDay.class.getDeclaredMethods()) {
            if (Modifier.isPublic(m.getModifiers())) {
                has.add(signature(m));
                names.add(m.getName());
                C.due(m + " is of an object", false, Modifier.isStatic(m.getModifiers()));
            } else {
                C.due(m + " is private", true, Modifier.isPrivate(m.getModifiers()));
            }
        }
        C.due("the face: " + has, true, has.equals(want));
        C.due("names", 40, names.size());
        for (Class<?> inside : SpareDay.class.getDeclaredClasses()) {
            for (Method m : inside.getDeclaredMethods()) {
                C.due(m + " bears a public one's name", false, names.contains(m.getName()));
            }
        }
        for (Method m : SpareDay.class.getDeclaredMethods()) {
            boolean both = !Modifier.isPublic(m.getModifiers()) && names.contains(m.getName());
            C.due(m + " bears a public one's name", false, both);
        }
        for (Field f : SpareDay.class.getDeclaredFields()) {
            boolean isNone = f.getName().equals("NONE");
            C.due(f + " is public", isNone, Modifier.isPublic(f.getModifiers()));
            C.due(f + " is private", !isNone, Modifier.isPrivate(f.getModifiers()));
        }
        Constructor<?>[] made = SpareDay.class.getDeclaredConstructors();
        C.due("one constructor", 1, made.length);
        C.due("it is public", true, Modifier.isPublic(made[0].getModifiers()) && made[0].getParameterCount() == 0);
        C.due("public and final", Modifier.PUBLIC | Modifier.FINAL, SpareDay.class.getModifiers());
    }

    private static String signature(Method m) {
        StringBuilder s = new StringBuilder(m.getName()).append('(');
        for (Class<?> type : m.getParameterTypes()) {
            s.append(s.charAt(s.length() - 1) == '(' ? "" : ",").append(type.getName());
        }
        return s.append(") ").append(m.getReturnType().getName()).toString();
    }

    private static void members(Class<?> type) {
        int fields = 0;
        for (Field f : type.getDeclaredFields()) {
            if (Modifier.isStatic(f.getModifiers())) {
                C.due(f + " is final", true, Modifier.isFinal(f.getModifiers()));
                List<Class<?>> may = List.of(int.class, long.class, boolean.class, char.class, String.class);
                C.due(f + " is a constant", true, may.contains(f.getType()));
            } else {
                fields++;
            }
        }
        C.due(type + " has some twenty fields: " + fields, true, fields <= 20);
        for (Method m : type.getDeclaredMethods()) {
            C.due(m + " takes seven at most", true, m.getParameterCount() <= 7);
        }
    }

    private static void words(String source) {
        for (char c : source.toCharArray()) {
            if (c != 10 && (c < 32 || c > 126)) {
                C.due("a sign " + (int) c, true, false);
            }
        }
        String bare = source.replaceAll("(?s)/\\*.*?\\*/", " ").replaceAll("//[^\n]*", " ").replaceAll("\"[^\"\n]*\"", "\"\"");
        String[] not = {"throw", "throws", "try", "catch", "finally", "synchronized", "assert", "import", "package", "volatile", "transient", "native",
            "equals", "hashCode", "toString", "Random", "Thread", "Object", "Exception", "protected", "System\\.(?!arraycopy)\\w+", "\\w+Exact",
            "Integer\\.(valueOf|parse)\\w*", "Math\\.(random|sqrt|pow|sin|cos|log|exp)\\w*"};
        for (String word : not) {
            C.due("the word " + word, false, Pattern.compile("\\b" + word + "\\b").matcher(bare).find());
        }
        C.due("a lambda or a method's name", false, bare.contains("->") || bare.contains("::"));
        C.due("no public class but one", 1, bare.split("\\bclass SpareDay\\b").length - 1);
        lengths(bare.split("\n"));
    }

    private static void lengths(String[] lines) {
        Pattern head = Pattern.compile("^ {4}( {4})?(private |public )(static |final )*[\\w\\[\\]]+ \\w+\\(.*\\{$");
        for (int i = 0; i < lines.length; i++) {
            if (head.matcher(lines[i]).matches()) {
                String end = lines[i].substring(0, lines[i].indexOf('p')) + "}";
                int till = i;
                while (!lines[till].equals(end)) {
                    till++;
                }
                C.due("a short method: " + lines[i].trim(), true, till - i < 60);
            }
        }
    }
}
