import java.lang.reflect.Method;
import java.nio.file.Files;
import java.nio.file.Path;
import java.util.Arrays;
import java.util.regex.Matcher;
import java.util.regex.Pattern;

/** Each call of the example in README.md answers what stands behind it there. */
public final class ReadmeTest {
    private static final Pattern CALL = Pattern.compile("net\\.(\\w+)\\((.*?)\\);\\s*// (-?\\d+): .*");

    private ReadmeTest() {
    }

    public static void main(String[] args) throws Exception {
        KahnNet net = new KahnNet(1);
        int calls = 0;
        for (String line : Files.readAllLines(Path.of("README.md"))) {
            if (line.startsWith("net.")) {
                checkLine(net, line);
                calls++;
            }
        }
        Check.holds("README.md has an example", calls > 0);
        Check.end();
    }

    private static void checkLine(KahnNet net, String line) throws ReflectiveOperationException {
        Matcher call = CALL.matcher(line);
        if (!call.matches()) {
            Check.holds("a call with its answer: " + line, false);
            return;
        }
        String[] words = call.group(2).isEmpty() ? new String[0] : call.group(2).split(", ");
        Object[] numbers = new Object[words.length];
        for (int i = 0; i < words.length; i++) {
            numbers[i] = number(words[i]);
        }
        Class<?>[] types = new Class<?>[words.length];
        Arrays.fill(types, int.class);
        Method method = KahnNet.class.getMethod(call.group(1), types);
        Check.due(line, (int) method.invoke(net, numbers), Integer.parseInt(call.group(3)));
    }

    private static int number(String word) throws ReflectiveOperationException {
        String constant = "KahnNet.";
        return word.startsWith(constant) ? KahnNet.class.getField(word.substring(constant.length())).getInt(null)
            : Integer.parseInt(word);
    }
}
