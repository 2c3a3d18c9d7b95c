import java.lang.reflect.Method;
import java.lang.reflect.Modifier;
import java.util.ArrayList;
import java.util.List;
import java.util.Random;

/** Random runs of calls, each asked of the program and of the oracle: both must answer alike. */
public final class OracleTest {
    private static final String[] CALLS = {
        "size", "relation", "facts", "tell", "fact", "known", "keep", "apart", "feed", "end", "story", "guess",
        "fault", "strike", "day", "view", "so", "breaks", "worlds", "forms", "form", "name", "least", "core",
        "sure", "cause", "without", "questions", "settle", "near", "holds", "against", "many", "image", "again"
    };

    private final Random random;
    private final VillageStories program = new VillageStories();
    private final Oracle oracle = new Oracle();
    private final List<String> log = new ArrayList<>();
    private final List<int[]> kinds = new ArrayList<>();
    private int calls = 0;
    private int dearLeft;
    private final int mostStories;
    private boolean isRight = true;

    private OracleTest(long seed) {
        random = new Random(seed);
        dearLeft = 60;
        mostStories = seldom(2) ? between(0, 3) : between(3, 9);
    }

    public static void main(String[] args) {
        int runs = args.length > 0 ? Integer.parseInt(args[0]) : 400;
        long from = args.length > 1 ? Long.parseLong(args[1]) : 1;
        int wrong = 0;
        long asked = 0;
        for (long seed = from; seed < from + runs && wrong < 5; seed++) {
            OracleTest run = new OracleTest(seed);
            run.play();
            asked += run.calls;
            if (!run.isRight) {
                wrong++;
                System.out.println("seed " + seed + ":");
                run.log.forEach(System.out::println);
            }
        }
        System.out.println(runs + " runs, " + asked + " calls, " + wrong + " runs not as due");
        if (wrong != 0) {
            System.exit(1);
        }
    }

    private int between(int low, int high) {
        return low + random.nextInt(high - low + 1);
    }

    private boolean seldom(int one) {
        return random.nextInt(one) == 0;
    }

    private int wild() {
        int[] some = {Integer.MIN_VALUE, Integer.MAX_VALUE, -2, -1, 3, 4, 9, 40, 999, 1000, 1 << 30};
        return seldom(3) ? random.nextInt() : some[random.nextInt(some.length)];
    }

    /** Mostly a number of the span, seldom another one. */
    private int number(int low, int high) {
        return seldom(25) ? wild() : between(low, high);
    }

    private void play() {
        int most = between(40, 510);
        setOut();
        while (calls < most && isRight) {
            step();
        }
    }

    private void setOut() {
        int relations = between(0, 3);
        for (int k = 0; k < 3; k++) {
            if (seldom(3)) {
                ask("size", k, between(1, 3));
            }
        }
        for (int r = 0; r < relations; r++) {
            addRelation();
        }
    }

    private void addRelation() {
        int first = number(0, 2);
        int second = seldom(3) ? -1 : seldom(2) ? first : number(0, 2);
        if (ask("relation", first, second) >= 0) {
            kinds.add(new int[] {first, second});
        }
    }

    private void step() {
        int chance = random.nextInt(100);
        if (chance < 14) {
            tellText(program.many(4) < mostStories || seldom(20) ? "story" : "guess");
        } else if (chance < 18) {
            tellText("guess");
        } else if (chance < 28) {
            ask("tell", relation(), number(0, 2), number(0, 2), between(0, 1));
        } else if (chance < 29) {
            ask("known", relation(), number(0, 2), number(0, 2), between(0, 1));
        } else if (chance < 30 && seldom(3)) {
            ask("size", number(0, 2), number(1, 3));
        } else if (chance < 31 && seldom(4)) {
            addRelation();
        } else {
            stepOther(CALLS[random.nextInt(CALLS.length)]);
        }
    }

    private void stepOther(String call) {
        switch (call) {
            case "size":
            case "relation":
            case "feed":
            case "end":
                return;
            case "story":
            case "guess":
                if (seldom(10)) {
                    ask(call);
                }
                return;
            case "known":
                if (seldom(3)) {
                    ask("known", relation(), number(0, 2), number(0, 2), between(0, 1));
                }
                return;
            case "again":
                if (seldom(3) && ask(call, number(0, 2)) == 1) {
                    while (kinds.size() > program.many(3)) {
                        kinds.remove(kinds.size() - 1);
                    }
                    refreshKinds();
                }
                return;
            default:
                ask(call, arguments(call));
                return;
        }
    }

    /** What again() brings back may be of other kinds: they are found out by telling facts. */
    private void refreshKinds() {
        while (kinds.size() < program.many(3)) {
            kinds.add(new int[] {0, 0});
        }
    }

    private int story() {
        return seldom(8) ? number(-1, 8) : number(0, Math.max(0, program.many(4) - 1));
    }

    private int relation() {
        return kinds.isEmpty() ? number(0, 1) : number(0, kinds.size() - 1);
    }

    private int[] arguments(String call) {
        switch (call) {
            case "tell":
                return new int[] {relation(), number(0, 2), number(0, 2), between(0, 1)};
            case "fact":
                return new int[] {relation(), number(0, 2), number(0, 2)};
            case "sure":
                return new int[] {relation(), number(0, 1), number(0, 1)};
            case "cause":
                return new int[] {relation(), number(0, 1), number(0, 1), seldom(3) ? number(0, 2) : 0};
            case "keep":
            case "apart":
                return new int[] {number(0, 3)};
            case "fault":
            case "holds":
                return new int[] {number(0, 1)};
            case "strike":
                return new int[] {seldom(4) ? story() : wild()};
            case "day":
                return new int[] {number(program.many(5), Math.min(999, program.many(5) + 3))};
            case "view":
                return new int[] {number(-1, program.many(5))};
            case "so":
            case "without":
                return new int[] {story()};
            case "breaks":
                return new int[] {story(), seldom(2) ? 0 : number(0, 3)};
            case "form":
                return new int[] {number(0, 9)};
            case "least":
            case "core":
            case "image":
                return new int[] {number(0, 2)};
            case "settle":
                return new int[] {number(0, 3)};
            case "many":
                return new int[] {number(0, 10)};
            default:
                return new int[0];
        }
    }

    private void tellText(String call) {
        ask("end", 0);
        String text = new Texts(random, kinds).text();
        log.add("  " + text.replace('\n', '|'));
        int[] ints = Tape.ints(text);
        for (int at = 0; at < ints.length; at += 5) {
            ask("feed", ints[at], ints[at + 1], ints[at + 2], ints[at + 3], ints[at + 4]);
        }
        ask("end", text.length());
        ask(call);
        ask("fault", 0);
        ask("fault", 1);
    }

    private boolean isDear(String call) {
        switch (call) {
            case "worlds":
            case "forms":
            case "form":
            case "least":
            case "core":
            case "sure":
            case "cause":
            case "without":
            case "questions":
            case "settle":
            case "near":
            case "holds":
            case "against":
                return true;
            default:
                return false;
        }
    }

    private long ask(String call, int... a) {
        if (isDear(call)) {
            if (program.facts() > 9 && program.facts() <= 12 && !seldom(12) || dearLeft <= 0) {
                return -1;
            }
            dearLeft--;
        }
        calls++;
        long got = answer(program, call, a);
        long want = answer(oracle, call, a);
        StringBuilder line = new StringBuilder(call).append('(');
        for (int at = 0; at < a.length; at++) {
            line.append(at == 0 ? "" : ", ").append(a[at]);
        }
        line.append(") = ").append(got);
        if (got != want) {
            isRight = false;
            line.append(", due is ").append(want);
        }
        log.add(line.toString());
        return got;
    }

    /** The program and the oracle have methods of the same names and parameters. */
    private static long answer(Object village, String call, int[] arguments) {
        for (Method method : village.getClass().getDeclaredMethods()) {
            if (method.getName().equals(call) && !Modifier.isPrivate(method.getModifiers())) {
                Class<?>[] types = method.getParameterTypes();
                Object[] given = new Object[types.length];
                for (int at = 0; at < types.length; at++) {
                    given[at] = types[at] == boolean.class ? (Object) (arguments[at] == 1) : (Object) arguments[at];
                }
                try {
                    Object answer = method.invoke(village, given);
                    return answer instanceof Boolean is ? is ? 1 : 0 : (Integer) answer;
                } catch (ReflectiveOperationException thrown) {
                    throw new IllegalStateException(call, thrown);
                }
            }
        }
        throw new IllegalArgumentException(call);
    }
}
