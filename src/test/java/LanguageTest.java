import java.lang.reflect.Constructor;
import java.lang.reflect.Field;
import java.lang.reflect.Method;
import java.lang.reflect.Modifier;
import java.nio.charset.StandardCharsets;
import java.nio.file.Files;
import java.nio.file.Path;
import java.util.ArrayList;
import java.util.Comparator;
import java.util.List;
import java.util.Random;
import java.util.Set;
import java.util.TreeSet;
import java.util.regex.Matcher;
import java.util.regex.Pattern;

/** The face of the document, and the rules of LANGUAGE.md that can be read off the file. */
final class LanguageTest {
    private static final List<String> FACE = List.of(
        "int write(int)", "int wipe()", "int fault()", "int graph()", "int about(int)", "int block(int,int)",
        "int arc(int,int)", "int sets(int,int)", "int add(int,int)", "int cut(int,int)", "int split(int,int)",
        "int mend()", "int undo()", "int run(int,int,int)", "int would(int)", "int judge(int,long)",
        "int share(int,int,boolean)", "int see(int,int,int)", "int unsee()", "int rows(int)",
        "int torn(int,int,boolean)", "long seed(long)", "int drawn(int)", "int keep(int)", "int again(int)");
    private static final Set<String> CONSTANTS = Set.of("UNKNOWN", "BAD", "LATE", "FULL", "NONE");

    private static void holds(String what, boolean so) {
        Check.due(what, so ? 1 : 0, 1);
    }

    private static String told(Method m) {
        List<String> types = new ArrayList<>();
        for (Class<?> type : m.getParameterTypes()) {
            types.add(type.getName());
        }
        return m.getReturnType().getName() + " " + m.getName() + "(" + String.join(",", types) + ")";
    }

    private static void face() {
        Class<?> c = NestFinder.class;
        holds("public and final", Modifier.isPublic(c.getModifiers()) && Modifier.isFinal(c.getModifiers()));
        Set<String> open = new TreeSet<>();
        Set<String> hidden = new TreeSet<>();
        for (Method m : c.getDeclaredMethods()) {
            if (Modifier.isPrivate(m.getModifiers())) {
                hidden.add(m.getName());
            } else if (!m.isSynthetic()) {
                open.add(told(m));
                holds(m + " is public", Modifier.isPublic(m.getModifiers()) && !Modifier.isStatic(m.getModifiers()));
                holds(m + " tells no exceptions", m.getExceptionTypes().length == 0);
            }
        }
        Check.same("the face", open.toString(), new TreeSet<>(FACE).toString());
        for (String method : FACE) {
            String name = method.substring(method.indexOf(' ') + 1, method.indexOf('('));
            holds("no private method bears the name " + name, !hidden.contains(name));
        }
        Constructor<?>[] made = c.getDeclaredConstructors();
        holds("one public constructor", made.length == 1 && Modifier.isPublic(made[0].getModifiers())
            && made[0].getParameterCount() == 0);
    }

    private static void fields(Class<?> c) {
        int own = 0;
        for (Field f : c.getDeclaredFields()) {
            boolean isStatic = Modifier.isStatic(f.getModifiers());
            own += isStatic ? 0 : 1;
            holds(f + " is final, if it is static", !isStatic || Modifier.isFinal(f.getModifiers()));
            if (c == NestFinder.class) {
                holds(f + " is private or a constant of the face",
                    CONSTANTS.contains(f.getName()) == Modifier.isPublic(f.getModifiers())
                    && (Modifier.isPublic(f.getModifiers()) || Modifier.isPrivate(f.getModifiers())));
            }
        }
        holds(c + " has twenty fields at most", own <= 20);
        for (Method m : c.getDeclaredMethods()) {
            holds(m + " has seven parameters at most", m.getParameterCount() <= 7);
        }
    }

    private static void classes() {
        Class<?>[] inside = NestFinder.class.getDeclaredClasses();
        holds("twelve classes at most", inside.length + 1 <= 12);
        fields(NestFinder.class);
        for (Class<?> c : inside) {
            holds(c + " is static", Modifier.isStatic(c.getModifiers()));
            holds(c + " is not public", !Modifier.isPublic(c.getModifiers()) && !Modifier.isProtected(c.getModifiers()));
            fields(c);
        }
    }

    private static String withoutRemarks(String source) {
        return source.replaceAll("(?s)/\\*.*?\\*/", "").replaceAll("//[^\n]*", "");
    }

    private static void source(String source) {
        String code = withoutRemarks(source);
        String[] ruledOut = {"\\bthrow\\b", "\\bthrows\\b", "\\btry\\b", "\\bcatch\\b", "\\bsynchronized\\b", "\\bassert\\b",
            "->", "::", "\\bpackage\\b", "\\bSystem\\.(?!arraycopy\\b)", "Exact\\b", "\\bwhile\\s*\\(\\s*true", "\\bstatic\\s*\\{",
            "\\.equals\\b", "\\bhashCode\\b", "\\btoString\\b", "\\bnew\\s+\\w+\\s*\\([^)]*\\)\\s*\\{"};
        for (String pattern : ruledOut) {
            holds("not in the class: " + pattern, !Pattern.compile(pattern).matcher(code).find());
        }
        Matcher imports = Pattern.compile("\\bimport\\s+([\\w.]+)").matcher(code);
        while (imports.find()) {
            holds("import " + imports.group(1), Set.of("java.util.Arrays", "java.util.ArrayList", "java.util.List").contains(imports.group(1)));
        }
        for (String line : code.split("\n")) {
            boolean makes = line.contains("new ");
            holds("made once, in a constructor: " + line.trim(),
                !makes || line.matches("\\s*private final .* = new .*;") || line.matches("\\s*\\w+ = new int\\[room.*\\];"));
        }
    }

    private static void methodsAreShort(String source) {
        int began = -1;
        String[] lines = source.split("\n");
        for (int i = 0; i < lines.length; i++) {
            if (lines[i].matches("    (    )?(?!static|private static final class)\\S.*\\) \\{")) {
                began = i;
            } else if (began >= 0 && lines[i].matches("    (    )?\\}")) {
                holds("sixty lines at most: " + lines[began].trim(), i - began <= 60);
                began = -1;
            }
        }
    }

    private static Object anyOf(Class<?> type, Random chance) {
        int[] odd = {-9, -1, 0, 1, 2, 3, 8, 11, 12, 13, 31, 32, 'G', 'a', 'z', 255, 256, Integer.MIN_VALUE, Integer.MAX_VALUE};
        if (type == boolean.class) {
            return chance.nextBoolean();
        }
        if (type == long.class) {
            return chance.nextInt(3) == 0 ? chance.nextLong() : Math.floorMod(chance.nextLong(), 1000000000000L);
        }
        return chance.nextInt(3) == 0 ? odd[chance.nextInt(odd.length)] : chance.nextInt(13);
    }

    /** Rule 7: "No call may ever throw or fail to end, for any arguments in any state", also behind the 512th. */
    private static void noCallThrows() throws ReflectiveOperationException {
        Random chance = new Random(7);
        NestFinder x = new NestFinder();
        for (char letter : "G8a123b45c6d07e1f2g3h4".toCharArray()) {
            x.write(letter);
        }
        List<Method> face = new ArrayList<>();
        for (Method m : NestFinder.class.getDeclaredMethods()) {
            // the text stays as it is, so that there are blocks again and again
            if (Modifier.isPublic(m.getModifiers()) && !Set.of("wipe", "write").contains(m.getName())) {
                face.add(m);
            }
        }
        face.sort(Comparator.comparing(Method::getName));
        for (int call = 0; call < 100000; call++) {
            if (call % 300 == 0) {
                x.graph();
            }
            Method m = face.get(chance.nextInt(face.size()));
            Object[] given = new Object[m.getParameterCount()];
            for (int i = 0; i < given.length; i++) {
                given[i] = anyOf(m.getParameterTypes()[i], chance);
            }
            m.invoke(x, given);
        }
        Check.due("about(0): there were blocks all the while", x.about(0) >= 8 ? 1 : 0, 1);
    }

    public static void main(String[] args) throws Exception {
        Path root = Path.of(args.length > 0 ? args[0] : ".");
        String source = Files.readString(root.resolve("src/main/java/NestFinder.java"), StandardCharsets.US_ASCII);
        face();
        classes();
        source(source);
        methodsAreShort(source);
        noCallThrows();
        Check.end();
    }
}
