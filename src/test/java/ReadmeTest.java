import java.io.IOException;
import java.lang.reflect.Method;
import java.lang.reflect.Modifier;
import java.nio.file.Files;
import java.nio.file.Path;
import java.util.regex.Matcher;
import java.util.regex.Pattern;

/** README.md's example: each of its calls is made here, and answers as the line there says. */
public final class ReadmeTest {
    private static final Pattern CALL = Pattern.compile("x\\.(\\w+)\\((.*)\\); +// (-?\\d+|true|false)(:.*)?");
    private static final Pattern PUT = Pattern.compile("put\\(x, \"(.*)\"\\);");
    private static final Check C = new Check();

    public static void main(String[] args) throws IOException {
        String readme = Files.readString(Path.of("README.md"));
        SpareDay x = new SpareDay();
        int calls = 0;
        for (String line : readme.split("\n")) {
            Matcher put = PUT.matcher(line);
            Matcher call = CALL.matcher(line);
            if (put.matches()) {
                put(x, put.group(1));
            } else if (call.matches()) {
                calls++;
                C.due(line, value(call.group(3)), ask(x, call.group(1), call.group(2)));
            }
        }
        C.due("calls in the example", true, calls > 15);
        for (Method m : SpareDay.class.getDeclaredMethods()) {
            boolean named = !Modifier.isPublic(m.getModifiers()) || readme.contains("`" + m.getName() + "`");
            C.due(m.getName() + " is named", true, named);
        }
        C.due("how to put a text is told as it is done here", true, readme.contains(HOW_TO_PUT));
        C.finish();
    }

    private static final String HOW_TO_PUT = String.join("\n",
            "            four[k / 4] = four[k / 4] << 8 | (i + k < text.length() ? text.charAt(i + k) : ' ');",
            "        }",
            "        x.feed(four[0], four[1], four[2], four[3], four[4]);");

    private static void put(SpareDay x, String text) {
        int[] four = new int[5];
        x.end(0);
        for (int i = 0; i < text.length(); i += 20) {
            for (int k = 0; k < 20; k++) {
                four[k / 4] = four[k / 4] << 8 | (i + k < text.length() ? text.charAt(i + k) : ' ');
            }
            x.feed(four[0], four[1], four[2], four[3], four[4]);
        }
        x.end(text.length());
    }

    private static long value(String word) {
        return word.equals("true") ? 1 : word.equals("false") ? 0 : Long.parseLong(word);
    }

    private static long ask(SpareDay x, String name, String arguments) {
        String[] words = arguments.isEmpty() ? new String[0] : arguments.split(", ");
        for (Method m : SpareDay.class.getDeclaredMethods()) {
            if (m.getName().equals(name) && m.getParameterCount() == words.length) {
                return ask(x, m, words);
            }
        }
        throw new IllegalArgumentException("no such call: " + name);
    }

    private static long ask(SpareDay x, Method m, String[] words) {
        Object[] values = new Object[words.length];
        for (int i = 0; i < words.length; i++) {
            boolean yesNo = m.getParameterTypes()[i] == boolean.class;
            values[i] = yesNo ? (Object) Boolean.valueOf(words[i]) : (Object) Integer.valueOf(words[i]);
        }
        try {
            Object answer = m.invoke(x, values);
            return answer instanceof Boolean ? value(answer.toString()) : ((Integer) answer).longValue();
        } catch (ReflectiveOperationException e) {
            throw new IllegalStateException(e);
        }
    }
}
