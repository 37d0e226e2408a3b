import java.io.IOException;
import java.lang.reflect.Constructor;
import java.lang.reflect.Executable;
import java.lang.reflect.Field;
import java.lang.reflect.Member;
import java.lang.reflect.Method;
import java.lang.reflect.Modifier;
import java.nio.file.Files;
import java.nio.file.Path;
import java.util.ArrayList;
import java.util.Arrays;
import java.util.HashMap;
import java.util.HashSet;
import java.util.List;
import java.util.Locale;
import java.util.Map;
import java.util.Set;
import java.util.TreeSet;
import java.util.regex.Matcher;
import java.util.regex.Pattern;
import java.util.stream.Collectors;
import java.util.stream.Stream;

/**
 * LANGUAGE.md, as far as a program can hold the class to it. Rules 7 and 9 (nothing is thrown by the
 * machine, each loop has an end) are for the reader; ModelTests calls with strange arguments.
 */
public final class LanguageTests {
    private static final String FACE_BEGINS = "public final class CobbleWorld {";
    /** The class needs none of these, though LANGUAGE.md leaves some of them under conditions. */
    private static final String[] NO_WORDS = {"import", "package", "try", "catch", "finally",
        "synchronized", "assert", "protected", "native", "volatile", "transient", "instanceof", "var",
        "enum", "record", "interface", "extends", "implements", "null", "equals", "hashCode",
        "toString", "strictfp", "yield", "sealed", "super"};
    private static final Set<String> NAMES = Set.of("CobbleWorld", "Grid", "Flow", "Lights", "Runs",
            "Mesh", "Clip", "Math", "System", "IndexOutOfBoundsException",
            "IllegalArgumentException", "IllegalStateException");
    private static final Set<String> LIBRARY = Set.of("Math.max", "System.arraycopy");
    private static final int MOST_CALLS_DEEP = 8;

    private LanguageTests() {
    }

    public static void main(String[] args) throws IOException {
        rule1TheFaceIsTheDocuments();
        rule1NoOtherMember();
        rule1NoPrivateMethodBearsAPublicName();
        rule1ClassesInside();
        rule3Types();
        rule4NamesOfTheLibrary();
        rule5StaticFields();
        rule6And10WordsAndSigns();
        rule8NoRecursionAndRule11Depth();
        rule11Sizes();
        rule12NoCallMakesObjects();
        signsAreAscii();
        Check.end();
    }

    private static List<Class<?>> classes() {
        List<Class<?>> classes = new ArrayList<>(List.of(CobbleWorld.class));
        classes.addAll(List.of(CobbleWorld.class.getDeclaredClasses()));
        return classes;
    }

    private static List<Executable> executables(Class<?> of) {
        return Stream.<Executable>concat(Arrays.stream(of.getDeclaredConstructors()),
                Arrays.stream(of.getDeclaredMethods())).collect(Collectors.toList());
    }

    private static void none(String what, List<String> found) {
        Check.equal(what, String.join("; ", found), "");
    }

    // ---- the face

    private static void rule1TheFaceIsTheDocuments() throws IOException {
        Check.sentence("LANGUAGE 1: the public constructor, methods and constants of the document");
        String document = Files.readString(Path.of("../shared/DOC.md"));
        int from = document.indexOf(FACE_BEGINS) + FACE_BEGINS.length();
        String face = document.substring(from, document.indexOf("\n}", from));
        Set<String> due = new TreeSet<>();
        for (String line : face.strip().split(";\\s*")) {
            due.add(line.replaceAll("\\b(int|boolean) \\w+(?=[,)])", "$1"));
        }
        Set<String> got = new TreeSet<>();
        for (Executable made : executables(CobbleWorld.class)) {
            if (!Modifier.isPrivate(made.getModifiers())) {
                got.add(told(made));
            }
        }
        Check.equal("how many are due", due.size(), 30);
        Check.equal("the face", String.join("\n", got), String.join("\n", due));
    }

    private static String told(Executable made) {
        String head = Modifier.toString(made.getModifiers()) + " ";
        String name = made instanceof Method method
                ? method.getReturnType().getSimpleName() + " " + method.getName()
                : made.getDeclaringClass().getSimpleName();
        String thrown = names(made.getExceptionTypes());
        return head + name + "(" + names(made.getParameterTypes()) + ")"
                + (thrown.isEmpty() ? "" : " throws " + thrown);
    }

    private static String names(Class<?>[] types) {
        return Arrays.stream(types).map(Class::getSimpleName).collect(Collectors.joining(", "));
    }

    private static void rule1NoOtherMember() {
        Check.sentence("LANGUAGE 1: no other public, protected or package-visible member");
        Check.equal("the class is", Modifier.toString(CobbleWorld.class.getModifiers()),
                "public final");
        List<String> seen = new ArrayList<>();
        for (Field field : CobbleWorld.class.getDeclaredFields()) {
            if (!Modifier.isPrivate(field.getModifiers())) {
                seen.add(field.getName());
            }
        }
        none("fields that are seen", seen);
    }

    private static void rule1NoPrivateMethodBearsAPublicName() {
        Check.sentence("LANGUAGE 1: No private method bears the name of a public one");
        Set<String> face = Arrays.stream(CobbleWorld.class.getDeclaredMethods())
                .filter(method -> Modifier.isPublic(method.getModifiers()))
                .map(Method::getName).collect(Collectors.toSet());
        Check.equal("names of the face", face.size(), 29);
        List<String> twice = new ArrayList<>();
        for (Class<?> in : classes()) {
            for (Method method : in.getDeclaredMethods()) {
                if (!Modifier.isPublic(method.getModifiers()) && face.contains(method.getName())) {
                    twice.add(method.toString());
                }
            }
        }
        none("methods with such a name", twice);
    }

    // ---- classes, types and names

    private static void rule1ClassesInside() {
        Check.sentence("LANGUAGE 1: the classes inside it, which are private or package-visible and static");
        for (Class<?> inside : CobbleWorld.class.getDeclaredClasses()) {
            int how = inside.getModifiers();
            Check.equal(inside.getName() + " is static", Modifier.isStatic(how) ? 1 : 0, 1);
            Check.equal(inside.getName() + " is seen",
                    Modifier.isPublic(how) || Modifier.isProtected(how) ? 1 : 0, 0);
            Check.equal("classes inside of " + inside.getName(),
                    inside.getDeclaredClasses().length, 0);
        }
    }

    private static void rule3Types() {
        Check.sentence("LANGUAGE 3: int, long, short, byte, char, boolean, double, float; arrays of these and of your own classes");
        Set<Class<?>> right = new HashSet<>(classes());
        right.addAll(Set.of(int.class, long.class, boolean.class, double.class, void.class,
                int[].class));
        List<String> wrong = new ArrayList<>();
        for (Class<?> in : classes()) {
            for (Field field : in.getDeclaredFields()) {
                if (!right.contains(field.getType())) {
                    wrong.add(field.toString());
                }
            }
            for (Executable made : executables(in)) {
                boolean isRight = right.containsAll(Set.copyOf(List.of(made.getParameterTypes())))
                        && (!(made instanceof Method method) || right.contains(method.getReturnType()));
                if (!isRight) {
                    wrong.add(made.toString());
                }
            }
        }
        none("other types", wrong);
    }

    private static void rule4NamesOfTheLibrary() throws IOException {
        Check.sentence("LANGUAGE 4: The library: only what stands here");
        Set<String> names = new TreeSet<>();
        Matcher name = Pattern.compile("\\b[A-Z]\\w*").matcher(Source.plain());
        while (name.find()) {
            if (!name.group().equals(name.group().toUpperCase(Locale.ROOT))) {
                names.add(name.group());
            }
        }
        names.removeAll(NAMES);
        none("other names", List.copyOf(names));
        Set<String> calls = new TreeSet<>();
        Matcher call = Pattern.compile("\\b(?:Math|System)\\.\\w+").matcher(Source.plain());
        while (call.find()) {
            calls.add(call.group());
        }
        calls.removeAll(LIBRARY);
        none("other calls of the library", List.copyOf(calls));
    }

    private static void rule5StaticFields() {
        Check.sentence("LANGUAGE 5: Static fields are final");
        List<String> wrong = new ArrayList<>();
        for (Class<?> in : classes()) {
            for (Field field : in.getDeclaredFields()) {
                int how = field.getModifiers();
                if (Modifier.isStatic(how) && !Modifier.isFinal(how)) {
                    wrong.add(field.toString());
                }
            }
        }
        none("others", wrong);
    }

    private static void rule6And10WordsAndSigns() throws IOException {
        Check.sentence("LANGUAGE 2, 6 and 10: words and signs that the class does without");
        String source = Source.plain();
        List<String> found = new ArrayList<>();
        for (String word : NO_WORDS) {
            if (Pattern.compile("\\b" + word + "\\b").matcher(source).find()) {
                found.add(word);
            }
        }
        for (String sign : new String[] {"->", "::", "@", "static {", "\"\" +", "+ \"\""}) {
            if (source.contains(sign)) {
                found.add(sign);
            }
        }
        none("found", found);
        String thrown = source.replaceAll("throw new \\w+\\(\"\"\\);", "");
        Check.equal("a throw in other words", thrown.contains("throw ") ? 1 : 0, 0);
    }

    private static void signsAreAscii() throws IOException {
        Check.sentence("LANGUAGE 4: constants, whose signs are 1 to 127");
        Check.equal("other signs", Files.readString(Source.FILE).chars().filter(c -> c > 126).count(), 0);
    }

    // ---- how deep, how long, how many

    private static void rule8NoRecursionAndRule11Depth() throws IOException {
        Check.sentence("LANGUAGE 11: calls that are no recursion go at most eight deep");
        // Methods of one name are taken for one: what is found is never less than it is.
        Map<String, Set<String>> called = new HashMap<>();
        List<Source.Method> methods = Source.methods();
        for (Source.Method method : methods) {
            Set<String> others = called.computeIfAbsent(method.name(), name -> new TreeSet<>());
            for (Source.Method other : methods) {
                if (method.calls(other.name())) {
                    others.add(other.name());
                }
            }
        }
        for (String name : called.keySet()) {
            List<String> deepest = deepest(called, name, List.of());
            if (deepest.size() > MOST_CALLS_DEEP) {
                Check.fail("too deep: " + deepest);
            }
        }
    }

    private static List<String> deepest(Map<String, Set<String>> called, String name,
            List<String> ahead) {
        List<String> way = new ArrayList<>(ahead);
        way.add(name);
        if (ahead.contains(name)) {
            Check.fail("recursion: " + way);
            return way;
        }
        List<String> deepest = way;
        for (String next : called.get(name)) {
            List<String> other = deepest(called, next, way);
            deepest = other.size() > deepest.size() ? other : deepest;
        }
        return deepest;
    }

    private static void rule11Sizes() throws IOException {
        Check.sentence("LANGUAGE 11: sizes");
        Check.equal("more than twelve classes", classes().size() > 12 ? 1 : 0, 0);
        int made = 0;
        for (Class<?> in : classes()) {
            long fields = Arrays.stream(in.getDeclaredFields())
                    .map(Member::getModifiers).filter(how -> !Modifier.isStatic(how)).count();
            Check.equal("more than twenty fields: " + in.getName(), fields > 20 ? 1 : 0, 0);
            for (Executable of : executables(in)) {
                Check.equal("more than seven parameters: " + of, of.getParameterCount() > 7 ? 1 : 0, 0);
                // The constructors of the classes inside are not written out.
                made += of instanceof Constructor && in != CobbleWorld.class ? 0 : 1;
            }
        }
        List<Source.Method> methods = Source.methods();
        Check.equal("methods found in the text", methods.size(), made);
        for (Source.Method method : methods) {
            Check.equal("more than sixty lines: " + method.name(),
                    method.text().lines().count() > 60 ? 1 : 0, 0);
        }
    }

    private static void rule12NoCallMakesObjects() throws IOException {
        Check.sentence("LANGUAGE 12: What a run makes is counted (no call makes any object but what it throws)");
        for (Source.Method method : Source.methods()) {
            boolean isConstructor = method.name().equals("CobbleWorld");
            String others = method.text().replaceAll("throw new ", "");
            Check.equal(method.name() + " makes objects",
                    !isConstructor && others.contains("new ") ? 1 : 0, 0);
        }
    }
}
