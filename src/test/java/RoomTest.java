import java.lang.management.ManagementFactory;

/** What a run takes of the one room, and that its dearest calls neither throw nor fail to end. */
public final class RoomTest {
    private static final int NONE = VillageStories.NONE;
    private static final Check CHECK = new Check();
    private static final int CALLS = 512;
    /** Far below the 7.3 million fields and elements, of eight bytes at most, of one room. */
    private static final long MOST_BYTES = 4_000_000;

    private RoomTest() {
    }

    public static void main(String[] args) {
        storiesAgainAndAgain();
        dearestStories();
        deepest();
        wildArguments();
        CHECK.finish();
    }

    private static long allocated() {
        com.sun.management.ThreadMXBean bean = (com.sun.management.ThreadMXBean) ManagementFactory.getThreadMXBean();
        return bean.getThreadAllocatedBytes(Thread.currentThread().getId());
    }

    private static void dueRoom(String what, long before) {
        long bytes = allocated() - before;
        CHECK.due(what + " took " + bytes + " bytes, at most " + MOST_BYTES, bytes <= MOST_BYTES, true);
    }

    /** Texts are what a call makes anew. */
    private static void storiesAgainAndAgain() {
        int[] ints = Tape.ints("not ".repeat(39) + "tree r");
        long before = allocated();
        VillageStories x = new VillageStories();
        x.relation(0, 0);
        x.image(0);
        for (int calls = 2; calls < CALLS; calls += 10) {
            for (int at = 0; at < ints.length; at += 5) {
                x.feed(ints[at], ints[at + 1], ints[at + 2], ints[at + 3], ints[at + 4]);
            }
            CHECK.due("guess", x.guess(), 40);
            x.again(0);
        }
        dueRoom("texts", before);
    }

    /** Four binders of three each around as many parts as there may be, eight times. */
    private static void dearestStories() {
        VillageStories x = new VillageStories();
        x.size(0, 3);
        x.relation(0, 0);
        x.relation(1, NONE);
        x.relation(1, NONE);
        x.size(1, 1);
        x.relation(2, NONE);
        x.size(2, 1);
        String inside = "or reach r x y ".repeat(17) + "reach r z w";
        for (int story = 0; story < 8; story++) {
            CHECK.due("story", Tape.story(x, "some x man some y man some z man all w man " + inside), story);
        }
        long before = allocated();
        for (int calls = 0; calls < 100; calls++) {
            x.size(1, 2 - calls % 2);
            CHECK.due("facts", x.facts(), calls % 2 == 0 ? 14 : 12);
            x.worlds();
            x.core(0);
            x.cause(0, 0, 0, 0);
            x.form(calls);
            x.name();
            x.least(0);
            x.settle(0);
            x.questions();
            x.near();
        }
        dueRoom("dear calls", before);
    }

    /** More parts within one another than a tape has room to close. */
    private static void deepest() {
        String[] words = {"not ", "or ", "all x man ", "least 2 x day ", "if not ", "and tree r "};
        for (String word : words) {
            VillageStories x = new VillageStories();
            x.relation(0, 0);
            String text = word.repeat(400 / word.length());
            CHECK.due("guess of '" + word + "' again and again", Tape.guess(x, text), NONE);
            CHECK.due("fault", x.fault(0), 1);
            CHECK.due("place", x.fault(1), text.length());
        }
    }

    private static void wildArguments() {
        int[] wild = {Integer.MIN_VALUE, -1_000_000_007, -129, -2, -1, 0, 1, 2, 3, 4, 5, 8, 9, 12, 36, 40, 400, 999,
            1000, 65_536, Integer.MAX_VALUE};
        VillageStories empty = new VillageStories();
        VillageStories full = new VillageStories();
        for (int kind = 0; kind < 3; kind++) {
            full.size(kind, 3);
        }
        for (int relation = 0; relation < 4; relation++) {
            full.relation(relation % 3, (relation + 1) % 3);
        }
        for (VillageStories x : new VillageStories[] {empty, full}) {
            for (int a : wild) {
                for (int b : wild) {
                    askAll(x, a, b);
                }
            }
        }
        CHECK.due("the calls came to an end", full.many(3), 4);
    }

    private static void askAll(VillageStories x, int a, int b) {
        x.tell(a, b, b, a > b);
        x.known(a, b, b, a > b);
        x.day(b < 3 ? b : -1);
        x.fact(a, b, b);
        x.fact(b, a, 0);
        x.keep(a);
        x.apart(a);
        x.feed(a, b, a, b, a);
        x.end(a);
        x.story();
        x.guess();
        x.fault(a);
        x.strike(a);
        x.view(a);
        x.so(a);
        x.breaks(a, b);
        x.form(a);
        x.least(a);
        x.core(a);
        x.sure(a, b, b);
        x.cause(a, b, a, b);
        x.without(a);
        x.settle(a);
        x.holds(a);
        x.many(a);
        x.image(a);
        x.again(a);
    }
}
