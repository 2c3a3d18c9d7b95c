import java.io.IOException;
import java.lang.reflect.Constructor;
import java.lang.reflect.Field;
import java.lang.reflect.Method;
import java.lang.reflect.Modifier;
import java.nio.charset.StandardCharsets;
import java.nio.file.Files;
import java.nio.file.Path;
import java.util.Arrays;
import java.util.List;
import java.util.Set;
import java.util.TreeSet;
import java.util.regex.Matcher;
import java.util.regex.Pattern;

/** What of ../shared/LANGUAGE.md can be seen from the source and from the compiled class. */
public final class LanguageTest {
    private static final Check CHECK = new Check();
    private static final Set<String> FACE = new TreeSet<>(List.of(
        "size(int,int)boolean", "relation(int,int)int", "facts()int", "tell(int,int,int,boolean)boolean",
        "fact(int,int,int)int", "known(int,int,int,boolean)boolean", "keep(int)boolean", "apart(int)int",
        "feed(int,int,int,int,int)int", "end(int)int", "story()int", "guess()int", "fault(int)int",
        "strike(int)boolean", "day(int)boolean", "view(int)boolean", "so(int)int", "breaks(int,int)int",
        "worlds()int", "forms()int", "form(int)boolean", "name()boolean", "least(int)int", "core(int)int",
        "sure(int,int,int)int", "cause(int,int,int,int)int", "without(int)int", "questions()int",
        "settle(int)int", "near()int", "holds(int)int", "against()boolean", "many(int)int",
        "image(int)boolean", "again(int)boolean"));
    private static final int MOST_LINES = 60;

    private LanguageTest() {
    }

    public static void main(String[] args) throws IOException {
        face();
        classes();
        String source = Files.readString(Path.of("src/main/java/VillageStories.java"), StandardCharsets.US_ASCII);
        String code = withoutComments(source);
        words(code);
        methods(code);
        loops(code);
        CHECK.finish();
    }

    private static boolean isPrivate(int modifiers) {
        return Modifier.isPrivate(modifiers);
    }

    /** Rule 1. */
    private static void face() {
        Class<VillageStories> face = VillageStories.class;
        CHECK.due("public and final", Modifier.isPublic(face.getModifiers()) && Modifier.isFinal(face.getModifiers()),
                true);
        Set<String> found = new TreeSet<>();
        for (Method method : face.getDeclaredMethods()) {
            if (!isPrivate(method.getModifiers())) {
                found.add(method.getName() + "(" + typeNames(method.getParameterTypes()) + ")"
                        + method.getReturnType().getName());
                CHECK.due(method + " is public", Modifier.isPublic(method.getModifiers()), true);
            }
        }
        CHECK.due("the methods are those of the face: " + found, found.equals(FACE), true);
        for (Constructor<?> constructor : face.getDeclaredConstructors()) {
            CHECK.due(constructor.toString(), constructor.getParameterCount(), 0);
            CHECK.due(constructor.toString(), Modifier.isPublic(constructor.getModifiers()), true);
        }
        for (Field field : face.getDeclaredFields()) {
            boolean isConstant = field.getName().equals("NONE");
            CHECK.due(field + " is private", isPrivate(field.getModifiers()), !isConstant);
        }
    }

    private static String typeNames(Class<?>[] types) {
        return String.join(",", Arrays.stream(types).map(Class::getName).toList());
    }

    /** Rules 1, 2, 5 and 11. */
    private static void classes() {
        Class<?>[] inside = VillageStories.class.getDeclaredClasses();
        CHECK.due("some twelve classes", inside.length <= 12, true);
        Set<String> faceNames = new TreeSet<>();
        FACE.forEach(method -> faceNames.add(method.substring(0, method.indexOf('('))));
        for (Class<?> one : inside) {
            int modifiers = one.getModifiers();
            CHECK.due(one + " is static", Modifier.isStatic(modifiers), true);
            CHECK.due(one + " is not seen", Modifier.isPublic(modifiers) || Modifier.isProtected(modifiers), false);
            for (Method method : one.getDeclaredMethods()) {
                CHECK.due(method + " has a name of the face", faceNames.contains(method.getName()), false);
                CHECK.due(method + " has at most seven parameters", method.getParameterCount() <= 7, true);
            }
            fields(one);
        }
        fields(VillageStories.class);
    }

    private static void fields(Class<?> one) {
        int fields = 0;
        for (Field field : one.getDeclaredFields()) {
            if (Modifier.isStatic(field.getModifiers())) {
                CHECK.due(field + " is final", Modifier.isFinal(field.getModifiers()), true);
            } else {
                fields++;
            }
        }
        CHECK.due(one + " has some twenty fields", fields <= 20, true);
    }

    private static String withoutComments(String source) {
        StringBuilder code = new StringBuilder();
        Matcher matcher = Pattern.compile("(?s)/\\*.*?\\*/|//[^\n]*|\"[^\"\n]*\"").matcher(source);
        int from = 0;
        while (matcher.find()) {
            code.append(source, from, matcher.start());
            code.append(matcher.group().startsWith("\"") ? "\"\"" : matcher.group().replaceAll("[^\n]", ""));
            from = matcher.end();
        }
        return code.append(source.substring(from)).toString();
    }

    /** Rules 2, 3, 4, 6 and 13. */
    private static void words(String code) {
        String[] wrong = {
            "throw", "throws", "try", "catch", "finally", "synchronized", "assert", "volatile", "transient", "native",
            "strictfp", "protected", "package", "import", "instanceof", "float", "double", "equals", "hashCode",
            "toString", "Object", "Thread", "Random", "Exception", "Error", "Exact", "Map", "Set", "Optional",
            "Stream", "var", "goto", "null\\[", "currentTimeMillis", "nanoTime", "identityHashCode"
        };
        for (String word : wrong) {
            CHECK.due("'" + word + "' stands in the code", Pattern.compile("\\b" + word + "\\b").matcher(code).find(),
                    false);
        }
        CHECK.due("a lambda, or an arrow of a switch", code.contains("->"), false);
        CHECK.due("a method reference", code.contains("::"), false);
        CHECK.due("an annotation", code.contains("@"), false);
        CHECK.due("a division", Pattern.compile("[^/]/[^/]|%").matcher(code).find(), false);
        CHECK.due("a static block", Pattern.compile("static\\s*\\{").matcher(code).find(), false);
        Matcher calls = Pattern.compile("\\b(Math|Integer|Long|System|Arrays|String)\\.(\\w+)").matcher(code);
        while (calls.find()) {
            boolean isAllowed = Set.of("Math.max", "Math.min", "Integer.bitCount", "Long.bitCount", "System.arraycopy")
                    .contains(calls.group());
            CHECK.due("the library's " + calls.group() + " may be used", isAllowed, true);
        }
        Matcher made = Pattern.compile("\\bnew\\s+(\\w+)").matcher(code);
        while (made.find()) {
            boolean isOwn = code.contains("class " + made.group(1) + " ");
            boolean isNumber = Set.of("int", "long", "boolean").contains(made.group(1));
            CHECK.due("new " + made.group(1) + " is of an own class", isOwn || isNumber, true);
        }
    }

    /** Rule 11: methods stay short. */
    private static void methods(String code) {
        String[] lines = code.split("\n", -1);
        for (int from = 0; from < lines.length; from++) {
            Matcher head = Pattern.compile("^( {4}| {8})\\S.*\\) \\{$").matcher(lines[from]);
            if (head.find()) {
                int to = from;
                while (to < lines.length && !lines[to].equals(head.group(1) + "}")) {
                    to++;
                }
                CHECK.due(lines[from].trim() + " is of some sixty lines", to - from <= MOST_LINES, true);
            }
        }
    }

    /** Rule 9: a loop's own line compares what it counts with its bound. */
    private static void loops(String code) {
        CHECK.due("a do loop", Pattern.compile("\\bdo\\b").matcher(code).find(), false);
        int loops = 0;
        for (String line : code.split("\n")) {
            if (Pattern.compile("\\b(for|while) \\(").matcher(line).find()) {
                loops++;
                CHECK.due(line.trim() + " has an end", Pattern.compile(" [<>]=? ").matcher(line).find(), true);
            }
        }
        CHECK.due("loops are found", loops > 50, true);
    }
}
