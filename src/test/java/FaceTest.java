import java.io.IOException;
import java.lang.reflect.Constructor;
import java.lang.reflect.Field;
import java.lang.reflect.Method;
import java.lang.reflect.Modifier;
import java.nio.file.Files;
import java.nio.file.Path;
import java.util.Set;
import java.util.TreeSet;
import java.util.regex.Matcher;
import java.util.regex.Pattern;

/** The public face of the document, and what of LANGUAGE.md can be seen by a program. */
public final class FaceTest {
    private static final Set<String> CONSTANTS = Set.of("SOURCE=0", "COPY=1", "PLUS=2", "FIRST=3", "PICK=4",
        "JOIN=5", "SUMS=6", "PAIRS=7", "BAD=-1", "FULL=-2", "TAKEN=-3");
    private static final Set<String> METHODS = Set.of(
        "public int KahnNet.source(int,int,int)", "public int KahnNet.process(int,int,int)",
        "public int KahnNet.clear()", "public int KahnNet.length(int)", "public int KahnNet.at(int,int)",
        "public int KahnNet.processes()", "public int KahnNet.total()",
        "public int KahnNet.firstDifference(int,int)");
    private static final Set<Class<?>> TYPES = Set.of(void.class, int.class, long.class, short.class,
        byte.class, char.class, boolean.class, int[].class, long[].class, short[].class, byte[].class,
        char[].class, boolean[].class);

    private FaceTest() {
    }

    public static void main(String[] args) throws Exception {
        theClass();
        fields();
        methods();
        words();
        Check.end();
    }

    private static void theClass() {
        Check.due("modifiers of the class", KahnNet.class.getModifiers(), Modifier.PUBLIC | Modifier.FINAL);
        Check.holds("the class has no package", KahnNet.class.getPackageName().isEmpty());
        Check.holds("the class extends nothing", KahnNet.class.getSuperclass() == Object.class);
        Check.due("interfaces", KahnNet.class.getInterfaces().length, 0);
        Check.due("nested classes", KahnNet.class.getDeclaredClasses().length, 0);
        Constructor<?>[] made = KahnNet.class.getDeclaredConstructors();
        Check.due("constructors", made.length, 1);
        Check.holds("the constructor is KahnNet(int)", made[0].toString().equals("public KahnNet(int)"));
    }

    private static void fields() throws IllegalAccessException {
        Set<String> seen = new TreeSet<>();
        int own = 0;
        for (Field field : KahnNet.class.getDeclaredFields()) {
            int how = field.getModifiers();
            Check.holds("rule 2 allows the type of " + field, TYPES.contains(field.getType()));
            if (Modifier.isStatic(how)) {
                Check.holds("rule 5 allows " + field, Modifier.isFinal(how)
                    && (field.getType() == int.class || field.getType() == long.class));
            } else {
                own++;
            }
            if (Modifier.isPublic(how)) {
                Check.holds("a constant: " + field, Modifier.isStatic(how) && field.getType() == int.class);
                seen.add(field.getName() + "=" + field.getInt(null));
            } else {
                Check.holds("private: " + field, Modifier.isPrivate(how));
            }
        }
        Check.holds("the constants are those of the document: " + seen, seen.equals(CONSTANTS));
        Check.holds("rule 10: at most forty fields", own <= 40);
    }

    private static void methods() {
        Set<String> seen = new TreeSet<>();
        Set<String> publicNames = new TreeSet<>();
        Set<String> privateNames = new TreeSet<>();
        for (Method method : KahnNet.class.getDeclaredMethods()) {
            Check.holds("rule 10: at most seven parameters: " + method, method.getParameterCount() <= 7);
            Check.holds("rule 2 allows what is answered: " + method, TYPES.contains(method.getReturnType()));
            Check.holds("rule 4: no array is answered: " + method, !method.getReturnType().isArray());
            for (Class<?> type : method.getParameterTypes()) {
                Check.holds("rule 2 allows what is taken: " + method, TYPES.contains(type));
            }
            if (Modifier.isPublic(method.getModifiers())) {
                seen.add(method.toString());
                publicNames.add(method.getName());
            } else {
                Check.holds("private: " + method, Modifier.isPrivate(method.getModifiers()));
                privateNames.add(method.getName());
            }
        }
        Check.holds("the methods are those of the document: " + seen, seen.equals(METHODS));
        privateNames.retainAll(publicNames);
        Check.holds("rule 1: public names of private methods: " + privateNames, privateNames.isEmpty());
    }

    /** Words that rules 2, 3, 4 and 6 rule out wherever they stand outside a comment. */
    private static void words() throws IOException {
        String text = Files.readString(Path.of("src/main/java/KahnNet.java"));
        String code = text.replaceAll("(?s)/\\*.*?\\*/", " ").replaceAll("//[^\n]*", " ");
        Matcher barred = Pattern.compile("\\b(package|import|float|double|String|Math|Integer|Long|System|Arrays"
            + "|Object|null|throws?|try|catch|finally|synchronized|assert|instanceof|interface|enum|record"
            + "|hashCode|equals|toString|getClass|clone)\\b|->|::|\"|\\[\\s*\\]\\s*\\[").matcher(code);
        while (barred.find()) {
            Check.holds("the program does without " + barred.group(), false);
        }
        Matcher made = Pattern.compile("\\bnew\\b").matcher(code);
        while (made.find()) {
            int lineStart = code.lastIndexOf('\n', made.start()) + 1;
            String line = code.substring(lineStart, code.indexOf('\n', made.start())).strip();
            Check.holds("rule 4: an array is made in a field's initialiser: " + line,
                line.matches("private final \\w+\\[] \\w+ = new \\w+\\[[A-Z_]+];"));
        }
    }
}
