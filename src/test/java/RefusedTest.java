/**
 * Wrong arguments of every call, below, above and far above, and calls that are refused where a village is
 * full: each answers as the document tells, and leaves all as it was, the images too. And what only asks
 * changes nothing.
 */
public final class RefusedTest {
    private static final int NONE = VillageStories.NONE;
    private static final int MIN = Integer.MIN_VALUE;
    private static final int MAX = Integer.MAX_VALUE;
    private static final int[] FAR = {MIN, MIN + 1, -1000, -5, -4, -3, -2, 13, 36, 64, 401, 1000, 65_536, MAX - 1, MAX};
    private static final Check CHECK = new Check();

    /** Makes a village anew, the same each time. */
    private interface Recipe {
        VillageStories make();
    }

    private interface Call {
        long on(VillageStories x);
    }

    private interface Yes {
        boolean on(VillageStories x);
    }

    private final String name;
    private final Recipe recipe;
    private final int longestTape;
    /** What is seen of the village as it is, then as each of its images has it. */
    private final String[] seen = new String[4];

    private RefusedTest(String name, int longestTape, Recipe recipe) {
        this.name = name;
        this.recipe = recipe;
        this.longestTape = longestTape;
        for (int k = NONE; k < 3; k++) {
            seen[k + 1] = seenBy(recipe.make(), k);
        }
    }

    public static void main(String[] args) {
        RefusedTest empty = new RefusedTest("empty", 60, VillageStories::new);
        RefusedTest small = new RefusedTest("small", 60, RefusedTest::small);
        RefusedTest torn = new RefusedTest("torn", 60, RefusedTest::torn);
        RefusedTest brim = new RefusedTest("brim", 400, RefusedTest::brim);
        for (RefusedTest test : new RefusedTest[] {empty, small, torn, brim}) {
            test.everywhere();
        }
        empty.nothingThere();
        small.ofSmall();
        torn.ofTorn();
        brim.ofBrim();
        small.asking();
        CHECK.finish();
    }

    /**
     * r of men and houses, s of men, t of houses and houses: ten facts. Story 0 is told on day 0, 1 on day 2
     * and struck on day 3, 2 on day 4, 3 on day 6; it is day 6, and the view is day 4.
     */
    private static VillageStories small() {
        VillageStories x = new VillageStories();
        x.size(2, 3);
        x.relation(0, 1);
        x.relation(0, NONE);
        x.relation(1, 1);
        Tape.story(x, "all x man some y house r x y");
        x.known(1, 0, 0, true);
        x.day(2);
        Tape.story(x, "all x man not s x");
        x.image(1);
        x.day(3);
        x.strike(1);
        x.day(4);
        Tape.story(x, "tree t");
        x.known(0, 1, 1, false);
        x.day(6);
        Tape.story(x, "all x man all y house r x y");
        x.known(2, 1, 0, true);
        x.tell(0, 1, 1, true);
        x.tell(1, 0, 0, true);
        x.keep(0);
        x.tell(2, 0, 1, true);
        x.keep(2);
        x.tell(0, 1, 0, true);
        Tape.guess(x, "some x man s x");
        Tape.guess(x, "tree r");
        x.view(4);
        x.image(0);
        Tape.put(x, "some y house t y y");
        return x;
    }

    /** There is no world: stories 1 and 2 can't both be so. */
    private static VillageStories torn() {
        VillageStories x = new VillageStories();
        x.relation(0, 1);
        Tape.story(x, "all x man some y house r x y");
        Tape.story(x, "some x man all y house not r x y");
        Tape.story(x, "all x man all y house r x y");
        Tape.guess(x, "all x man some y house r x y");
        x.tell(0, 1, 0, true);
        x.keep(3);
        x.image(2);
        return x;
    }

    /** As much of all as there may be. */
    private static VillageStories brim() {
        VillageStories x = new VillageStories();
        for (int kind = 0; kind < 3; kind++) {
            x.size(kind, 3);
            x.relation(kind, kind);
        }
        x.relation(0, 1);
        x.day(999);
        for (int times = 0; times < 40; times++) {
            x.known(times % 4, times / 4 % 3, times / 12 % 3, times % 3 == 0);
        }
        for (int story = 0; story < 8; story++) {
            Tape.story(x, "all x man some y man r x y");
        }
        x.tell(3, 2, 2, true);
        x.keep(1);
        x.image(0);
        x.image(1);
        x.image(2);
        for (int times = 0; times < 20; times++) {
            x.feed(times, 1, 2, 3, 4);
        }
        return x;
    }

    private String seenBy(VillageStories x, int image) {
        boolean isThere = image == NONE || x.again(image);
        return isThere + " " + Seen.of(x, longestTape);
    }

    /** The call answers so, and all is as it was. */
    private void due(String what, Call call, long want) {
        for (int k = NONE; k < 3; k++) {
            VillageStories x = recipe.make();
            CHECK.due(name + ": " + what, call.on(x), want);
            String now = seenBy(x, k);
            if (!now.equals(seen[k + 1])) {
                CHECK.fail(name + ": " + what + " left\n" + now + ", due is (by image " + k + ")\n" + seen[k + 1]);
            }
        }
    }

    private void refused(String what, Yes call) {
        due(what, x -> call.on(x) ? 1 : 0, 0);
    }

    private void none(String what, Call call) {
        due(what, call, NONE);
    }

    /** Arguments that are wrong whatever has been told. */
    private void everywhere() {
        for (int wrong : FAR) {
            wrongNumber(wrong);
            if (wrong != -2) {
                none("relation(0, " + wrong + ")", x -> x.relation(0, wrong));
            }
        }
        for (int wrong : new int[] {-1, 3, 4}) {
            refused("size(" + wrong + ", 1)", x -> x.size(wrong, 1));
            none("relation(" + wrong + ", 0)", x -> x.relation(wrong, 0));
            none("least(" + wrong + ")", x -> x.least(wrong));
            refused("image(" + wrong + ")", x -> x.image(wrong));
            refused("again(" + wrong + ")", x -> x.again(wrong));
        }
        for (int wrong : new int[] {-1, 0, 4, 5}) {
            refused("size(2, " + wrong + ")", x -> x.size(2, wrong));
        }
        for (int wrong : new int[] {-2, 3, 4}) {
            none("relation(0, " + wrong + ")", x -> x.relation(0, wrong));
        }
        for (int wrong : new int[] {-1, 4, 5}) {
            refused("keep(" + wrong + ")", x -> x.keep(wrong));
            none("apart(" + wrong + ")", x -> x.apart(wrong));
            none("settle(" + wrong + ")", x -> x.settle(wrong));
            refused("tell(" + wrong + ", 0, 0)", x -> x.tell(wrong, 0, 0, true));
            refused("known(" + wrong + ", 0, 0)", x -> x.known(wrong, 0, 0, true));
        }
        for (int wrong : new int[] {-1, 2, 3}) {
            none("fault(" + wrong + ")", x -> x.fault(wrong));
            none("holds(" + wrong + ")", x -> x.holds(wrong));
        }
        refused("day(-1)", x -> x.day(-1));
        refused("day(1000)", x -> x.day(1000));
        refused("view(-2)", x -> x.view(-2));
        refused("view(1000)", x -> x.view(1000));
        none("end(-1)", x -> x.end(-1));
        none("end(401)", x -> x.end(401));
        due("many(-1)", x -> x.many(-1), -2);
        due("many(11)", x -> x.many(11), -2);
        due("many(12)", x -> x.many(12), -2);
        none("so(8)", x -> x.so(8));
        none("breaks(8, 0)", x -> x.breaks(8, 0));
        none("breaks(-1, 0)", x -> x.breaks(-1, 0));
        none("without(8)", x -> x.without(8));
        none("without(-1)", x -> x.without(-1));
        refused("strike(8)", x -> x.strike(8));
        refused("strike(-1)", x -> x.strike(-1));
    }

    /** One that no call takes anywhere; but end(13 .. 64) may be as long as the tape is. */
    private void wrongNumber(int wrong) {
        String n = Integer.toString(wrong);
        refused("size(" + n + ", 1)", x -> x.size(wrong, 1));
        refused("size(0, " + n + ")", x -> x.size(0, wrong));
        none("relation(" + n + ", 0)", x -> x.relation(wrong, 0));
        refused("tell(" + n + ", 0, 0)", x -> x.tell(wrong, 0, 0, true));
        refused("tell(0, " + n + ", 0)", x -> x.tell(0, wrong, 0, true));
        refused("tell(0, 0, " + n + ")", x -> x.tell(0, 0, wrong, true));
        none("fact(" + n + ", 0, 0)", x -> x.fact(wrong, 0, 0));
        none("fact(0, " + n + ", 0)", x -> x.fact(0, wrong, 0));
        none("fact(0, 0, " + n + ")", x -> x.fact(0, 0, wrong));
        refused("known(" + n + ", 0, 0)", x -> x.known(wrong, 0, 0, true));
        refused("known(0, " + n + ", 0)", x -> x.known(0, wrong, 0, true));
        refused("known(0, 0, " + n + ")", x -> x.known(0, 0, wrong, true));
        refused("keep(" + n + ")", x -> x.keep(wrong));
        none("apart(" + n + ")", x -> x.apart(wrong));
        if (wrong < 0 || wrong > 400) {
            none("end(" + n + ")", x -> x.end(wrong));
        }
        none("fault(" + n + ")", x -> x.fault(wrong));
        refused("strike(" + n + ")", x -> x.strike(wrong));
        if (wrong < 0 || wrong > 999) {
            refused("day(" + n + ")", x -> x.day(wrong));
            refused("view(" + n + ")", x -> x.view(wrong));
        }
        none("so(" + n + ")", x -> x.so(wrong));
        none("breaks(" + n + ", 0)", x -> x.breaks(wrong, 0));
        none("breaks(0, " + n + ")", x -> x.breaks(0, wrong));
        if (wrong < 0 || wrong > 4096) {
            refused("form(" + n + ")", x -> x.form(wrong));
        }
        none("least(" + n + ")", x -> x.least(wrong));
        none("core(" + n + ")", x -> x.core(wrong));
        none("sure(" + n + ", 0, 0)", x -> x.sure(wrong, 0, 0));
        none("sure(0, " + n + ", 0)", x -> x.sure(0, wrong, 0));
        none("sure(0, 0, " + n + ")", x -> x.sure(0, 0, wrong));
        none("cause(" + n + ", 0, 0, 0)", x -> x.cause(wrong, 0, 0, 0));
        none("cause(0, " + n + ", 0, 0)", x -> x.cause(0, wrong, 0, 0));
        none("cause(0, 0, " + n + ", 0)", x -> x.cause(0, 0, wrong, 0));
        none("cause(0, 0, 0, " + n + ")", x -> x.cause(0, 0, 0, wrong));
        none("without(" + n + ")", x -> x.without(wrong));
        none("settle(" + n + ")", x -> x.settle(wrong));
        none("holds(" + n + ")", x -> x.holds(wrong));
        due("many(" + n + ")", x -> x.many(wrong), -2);
        refused("image(" + n + ")", x -> x.image(wrong));
        refused("again(" + n + ")", x -> x.again(wrong));
    }

    private void nothingThere() {
        for (int kind = 0; kind < 3; kind++) {
            int one = kind;
            refused("size, as it is", x -> x.size(one, 2));
            refused("again, no image", x -> x.again(one));
        }
        refused("tell, no relation", x -> x.tell(0, 0, 0, true));
        none("fact, no relation", x -> x.fact(0, 0, 0));
        refused("known, no relation", x -> x.known(0, 0, 0, true));
        none("sure, no fact", x -> x.sure(0, 0, 0));
        none("cause, no fact", x -> x.cause(0, 0, 0, 0));
        for (int k = 0; k < 4; k++) {
            int one = k;
            none("apart, none kept", x -> x.apart(one));
            none("settle, no fact", x -> x.settle(one));
        }
        none("end(1), no tape", x -> x.end(1));
        due("end(0), no tape", x -> x.end(0), 0);
        refused("strike, no story", x -> x.strike(0));
        none("so, no story", x -> x.so(0));
        none("so, no guess", x -> x.so(NONE));
        none("breaks, no story", x -> x.breaks(0, 0));
        none("core, there is a world", x -> x.core(0));
        none("without, no story", x -> x.without(0));
        none("holds(0), no guess", x -> x.holds(0));
        none("holds(1), no guess", x -> x.holds(1));
        refused("against, no guess", VillageStories::against);
        refused("view(1), later than now", x -> x.view(1));
        refused("form(1), one form alone", x -> x.form(1));
        refused("name of no facts", VillageStories::name);
        due("near of no facts", VillageStories::near, 0);
        due("day(0), as it is", x -> x.day(0) ? 1 : 0, 1);
        due("view(NONE), as it is", x -> x.view(NONE) ? 1 : 0, 1);
    }

    private void ofSmall() {
        refused("size, as it is", x -> x.size(0, 2));
        refused("size, as it is", x -> x.size(2, 3));
        int[][] none = {{3, 0, 0}, {0, 2, 0}, {0, 0, 2}, {0, -1, 0}, {0, 0, -1}, {1, 2, 0}, {1, -1, 0}, {2, 2, 0},
            {2, 0, 2}, {0, 3, 0}, {0, 0, 3}};
        for (int[] a : none) {
            refused("tell, none such", x -> x.tell(a[0], a[1], a[2], true));
            refused("tell, none such", x -> x.tell(a[0], a[1], a[2], false));
            none("fact, none such", x -> x.fact(a[0], a[1], a[2]));
            none("sure, none such", x -> x.sure(a[0], a[1], a[2]));
            none("cause, none such", x -> x.cause(a[0], a[1], a[2], 0));
        }
        refused("tell, as it is", x -> x.tell(0, 1, 1, true));
        refused("tell, as it is", x -> x.tell(0, 0, 0, false));
        refused("tell of one kind, as it is", x -> x.tell(1, 0, 1, true));
        refused("tell of one kind, as it is", x -> x.tell(1, 1, MIN, false));
        int[][] unknowable = {{3, 0, 0}, {0, 3, 0}, {0, 0, 3}, {0, -1, 0}, {0, 0, -1}, {1, 3, 0}, {1, -1, 0}, {2, 0, 3}};
        for (int[] a : unknowable) {
            refused("known, none such", x -> x.known(a[0], a[1], a[2], true));
        }
        none("apart(1), none kept", x -> x.apart(1));
        none("apart(3), none kept", x -> x.apart(3));
        none("end, one too much", x -> x.end(19));
        due("end, as it is", x -> x.end(18), 18);
        refused("strike, none such", x -> x.strike(4));
        refused("strike, it is (now)", x -> x.strike(1));
        refused("day, one earlier", x -> x.day(5));
        refused("day 0", x -> x.day(0));
        due("day, as it is", x -> x.day(6) ? 1 : 0, 1);
        refused("view, one later", x -> x.view(7));
        due("view, as it is", x -> x.view(4) ? 1 : 0, 1);
        none("so, none such", x -> x.so(4));
        none("breaks, none such", x -> x.breaks(4, 0));
        none("breaks, k = -1", x -> x.breaks(3, -1));
        none("breaks, k of no all", x -> x.breaks(3, 2));
        none("breaks, it is so", x -> x.breaks(2, 0));
        refused("form(-1)", x -> x.form(-1));
        refused("form, behind the last", x -> x.form(x.forms()));
        none("core, there are worlds", x -> x.core(0));
        none("cause, not sure", x -> x.cause(0, 0, 0, 0));
        none("sure in some", x -> x.sure(0, 0, 0));
        due("sure, as it is known", x -> x.sure(1, 0, 0), 1);
        none("cause, none is needed", x -> x.cause(1, 0, 0, 0));
        none("cause, k = -1", x -> x.cause(0, 1, 0, -1));
        due("cause", x -> x.cause(0, 1, 0, 0), 0);
        none("cause, behind the last", x -> x.cause(0, 1, 0, 1));
        none("without a struck one", x -> x.without(1));
        none("without one that is told later", x -> x.without(3));
        none("without none such", x -> x.without(4));
        refused("again, no such image", x -> x.again(2));
    }

    /** There are no worlds. */
    private void ofTorn() {
        due("worlds", VillageStories::worlds, 0);
        due("forms", VillageStories::forms, 0);
        refused("form(0)", x -> x.form(0));
        none("near", VillageStories::near);
        none("questions", VillageStories::questions);
        for (int k = 0; k < 4; k++) {
            int one = k;
            none("settle", x -> x.settle(one));
            none("sure", x -> x.sure(0, one / 2, one % 2));
            none("cause", x -> x.cause(0, one / 2, one % 2, 0));
        }
        due("holds(0)", x -> x.holds(0), 0);
        due("holds(1)", x -> x.holds(1), 0);
        refused("against", VillageStories::against);
        due("core(0)", x -> x.core(0), 0);
        due("core(1)", x -> x.core(1), 1);
        none("core, behind the last", x -> x.core(2));
        none("core(-1)", x -> x.core(-1));
    }

    /** Nothing more can come, and what is asked of worlds can't be told. */
    private void ofBrim() {
        none("relation, a fifth", x -> x.relation(0, 0));
        none("relation, a fifth of one", x -> x.relation(2, NONE));
        refused("known, the 41st", x -> x.known(0, 0, 0, true));
        refused("known, the 41st", x -> x.known(3, 2, 2, false));
        none("feed", x -> x.feed(1, 2, 3, 4, 5));
        due("end(400)", x -> x.end(400), 400);
        refused("day(998)", x -> x.day(998));
        due("worlds", VillageStories::worlds, NONE);
        due("forms", VillageStories::forms, NONE);
        refused("form(0)", x -> x.form(0));
        refused("name", VillageStories::name);
        none("apart", x -> x.apart(1));
        none("core", x -> x.core(0));
        none("sure", x -> x.sure(0, 0, 0));
        none("cause", x -> x.cause(0, 0, 0, 0));
        none("without", x -> x.without(0));
        none("questions", VillageStories::questions);
        none("near", VillageStories::near);
        refused("against", VillageStories::against);
    }

    /** What only asks changes nothing. */
    private void asking() {
        Call[] calls = {VillageStories::facts, x -> x.fact(0, 1, 1), x -> x.apart(0), x -> x.fault(0), x -> x.so(0),
            x -> x.so(NONE), x -> x.breaks(3, 1), VillageStories::worlds, VillageStories::forms, x -> x.least(0),
            x -> x.core(0), x -> x.sure(0, 1, 0), x -> x.cause(0, 1, 0, 0), x -> x.without(0), x -> x.without(2),
            VillageStories::questions, x -> x.settle(0), x -> x.holds(0), x -> x.holds(1), x -> x.many(7)};
        int[] answers = {10, 1, 2, 3, 0, 1, 0, 18, 2, 1, NONE, 1, 0, 48, 96, NONE, 1, 18, 2, 5};
        for (int at = 0; at < calls.length; at++) {
            due("asking, call " + at, calls[at], answers[at]);
        }
    }
}
