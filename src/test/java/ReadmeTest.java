import java.io.IOException;
import java.lang.reflect.Method;
import java.lang.reflect.Modifier;
import java.nio.charset.StandardCharsets;
import java.nio.file.DirectoryStream;
import java.nio.file.Files;
import java.nio.file.Path;
import java.util.regex.Matcher;
import java.util.regex.Pattern;

/** README.md: it names every call and every test, and its example answers as it says. */
public final class ReadmeTest {
    private static final Check CHECK = new Check();

    private ReadmeTest() {
    }

    public static void main(String[] args) throws IOException {
        String readme = Files.readString(Path.of("README.md"), StandardCharsets.US_ASCII);
        calls(readme);
        tests(readme);
        example(readme);
        texts();
        CHECK.finish();
    }

    private static void calls(String readme) {
        for (Method method : VillageStories.class.getDeclaredMethods()) {
            if (Modifier.isPublic(method.getModifiers())) {
                CHECK.due("README.md names " + method.getName(), readme.contains("`" + method.getName() + "`"), true);
            }
        }
    }

    private static void tests(String readme) throws IOException {
        try (DirectoryStream<Path> files = Files.newDirectoryStream(Path.of("src/test/java"), "*Test.java")) {
            for (Path file : files) {
                String name = file.getFileName().toString().replace(".java", "");
                CHECK.due("README.md names " + name, readme.contains("| `" + name + "` |"), true);
            }
        }
    }

    /** Each call of the example whose comment begins with an answer. */
    private static void example(String readme) {
        VillageStories x = new VillageStories();
        Matcher lines = Pattern.compile("(?m)^x\\.(\\w+)\\((.*)\\);(?: +// (?:(-?\\d+|NONE): )?.*)?$").matcher(readme);
        int answers = 0;
        while (lines.find()) {
            long got = answer(x, lines.group(1), lines.group(2));
            if (lines.group(3) != null) {
                answers++;
                long want = lines.group(3).equals("NONE") ? VillageStories.NONE : Long.parseLong(lines.group(3));
                CHECK.due("README.md's " + lines.group(), got, want);
            }
        }
        CHECK.due("answers in README.md's example", answers, 7);
    }

    private static long answer(VillageStories x, String call, String arguments) {
        String[] given = arguments.isEmpty() ? new String[0] : arguments.split(", ");
        for (Method method : VillageStories.class.getDeclaredMethods()) {
            if (method.getName().equals(call)) {
                Class<?>[] types = method.getParameterTypes();
                Object[] values = new Object[types.length];
                for (int at = 0; at < types.length; at++) {
                    values[at] = types[at] == boolean.class ? (Object) Boolean.valueOf(given[at])
                            : (Object) Integer.decode(given[at]);
                }
                try {
                    Object answer = method.invoke(x, values);
                    return answer instanceof Boolean is ? is ? 1 : 0 : (Integer) answer;
                } catch (ReflectiveOperationException thrown) {
                    throw new IllegalStateException(call, thrown);
                }
            }
        }
        throw new IllegalArgumentException(call);
    }

    /** The texts that README.md shows are texts: r of two men, s too, t of days. */
    private static void texts() {
        String[] texts = {"some x day not t x", "tree s", "all x man if r x x some y man and reach r x y not same x y"};
        VillageStories x = new VillageStories();
        x.relation(0, 0);
        x.relation(0, 0);
        x.relation(2, VillageStories.NONE);
        int[] parts = {3, 1, 8};
        for (int at = 0; at < texts.length; at++) {
            CHECK.due("parts of '" + texts[at] + "'", Tape.guess(x, texts[at]), parts[at]);
        }
        VillageStories y = new VillageStories();
        y.relation(0, 1);
        CHECK.due("parts", Tape.guess(y, "all x man least 2 y house r x y"), 3);
    }
}
