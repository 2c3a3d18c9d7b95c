/**
 * The sentences of the document that name a boundary, in the document's order, but those of the tape (FaultsTest)
 * and of wrong arguments (RefusedTest): the last that goes and the first that doesn't, none and all.
 */
public final class LimitsTest {
    private static final int NONE = VillageStories.NONE;
    private static final Check CHECK = new Check();

    private LimitsTest() {
    }

    public static void main(String[] args) {
        sizes();
        sizesOfTexts();
        joined();
        noRelation();
        fourRelations();
        relationsOfAllKinds();
        twelveFacts();
        thirteenFacts();
        allFactsAtOnce();
        worldComesAnew();
        fortyKnown();
        knownOfFactsThatAreNot();
        knownByDays();
        trees();
        treesOfFour();
        eightStories();
        days();
        views();
        breaks();
        noWorlds();
        noStory();
        noGuess();
        rowsInOrder();
        leastSizes();
        cores();
        causes();
        settle();
        near();
        questions();
        apart();
        images();
        lastCall();
        CHECK.finish();
    }

    private static void due(String call, long got, long want) {
        CHECK.due(call, got, want);
    }

    private static void due(String call, boolean got, boolean want) {
        CHECK.due(call, got, want);
    }

    private static VillageStories sized(int men, int houses, int days) {
        VillageStories x = new VillageStories();
        x.size(0, men);
        x.size(1, houses);
        x.size(2, days);
        return x;
    }

    /** r of men, s of houses, t of days, one of each: three facts, eight worlds. */
    private static VillageStories threeFacts() {
        VillageStories x = sized(1, 1, 1);
        for (int kind = 0; kind < 3; kind++) {
            x.relation(kind, NONE);
        }
        return x;
    }

    /** Told of threeFacts(): not all three facts are as the bits of the number are. */
    private static String notThisOne(int world) {
        return "or " + ((world & 4) == 0 ? "" : "not ") + "some x man r x or " + ((world & 2) == 0 ? "" : "not ")
                + "some x house s x " + ((world & 1) == 0 ? "" : "not ") + "some x day t x";
    }

    // ---- "of each there are as many as its SIZE tells, 1 .. 3 (2 at first)"

    private static void sizes() {
        for (int men = 1; men <= 3; men++) {
            for (int houses = 1; houses <= 3; houses++) {
                for (int days = 1; days <= 3; days++) {
                    sizes(new int[] {men, houses, days});
                }
            }
        }
        VillageStories x = new VillageStories();
        for (int kind = 0; kind < 3; kind++) {
            due("size 2 at first", x.many(kind), 2);
            due("size 2, it is that", x.size(kind, 2), false);
            due("size 0", x.size(kind, 0), false);
            due("size 1", x.size(kind, 1), true);
            due("size 1, it is that", x.size(kind, 1), false);
            due("size 3", x.size(kind, 3), true);
            due("size 4", x.size(kind, 4), false);
            due("size 3, it is that", x.size(kind, 3), false);
            due("many", x.many(kind), 3);
        }
    }

    private static void sizes(int[] sizes) {
        VillageStories x = sized(sizes[0], sizes[1], sizes[2]);
        for (int first = 0; first < 3; first++) {
            due("many", x.many(first), sizes[first]);
            for (int second = NONE; second < 3; second++) {
                VillageStories y = sized(sizes[0], sizes[1], sizes[2]);
                y.relation(first, second);
                int width = second == NONE ? 1 : sizes[second];
                due("facts", y.facts(), sizes[first] * width);
                due("worlds", y.worlds(), 1L << sizes[first] * width);
                for (int i = -1; i <= 3; i++) {
                    for (int j = -1; j <= 3; j++) {
                        boolean isThere = i >= 0 && i < sizes[first] && (second == NONE || j >= 0 && j < width);
                        due("fact(0, " + i + ", " + j + ")", y.fact(0, i, j), isThere ? 0 : NONE);
                        due("tell(0, " + i + ", " + j + ")", y.tell(0, i, j, true), isThere);
                        due("fact(0, " + i + ", " + j + ")", y.fact(0, i, j), isThere ? 1 : NONE);
                        due("many(8)", y.many(8), isThere ? 1 : 0);
                        due("tell(0, " + i + ", " + j + ")", y.tell(0, i, j, false), isThere);
                    }
                }
            }
        }
    }

    /** all: of each; some: one; least n, most n: at each size, for each number that are so. */
    private static void sizesOfTexts() {
        String[] kinds = {"man", "house", "day"};
        for (int kind = 0; kind < 3; kind++) {
            for (int size = 1; size <= 3; size++) {
                VillageStories x = new VillageStories();
                x.size(kind, size);
                x.relation(kind, NONE);
                for (int so = 0; so <= size; so++) {
                    if (so > 0) {
                        x.tell(0, size - so, 0, true);
                    }
                    String what = " x " + kinds[kind] + " r x";
                    dueSo(x, "all" + what, so == size);
                    dueSo(x, "some" + what, so >= 1);
                    for (int n = 0; n <= 4; n++) {
                        dueSo(x, "least " + n + what, so >= n);
                        dueSo(x, "most " + n + what, so <= n);
                    }
                    dueSo(x, "least 9999" + what, false);
                    dueSo(x, "most 9999" + what, true);
                }
            }
        }
    }

    /** What joins two that are so each in one world alone, whichever that is. */
    private static void joined() {
        for (int world = 0; world < 64; world++) {
            VillageStories x = sized(3, 1, 3);
            x.relation(0, NONE);
            x.relation(2, NONE);
            for (int bit = 0; bit < 6; bit++) {
                boolean is = (world >> bit & 1) == 1;
                x.known(bit / 3, bit % 3, 0, is);
                x.tell(bit / 3, bit % 3, 0, is);
            }
            String men = "least " + Integer.bitCount(world & 7) + " x man r x";
            String fewer = "most " + Integer.bitCount(world & 7) + " x man r x";
            String never = "some x day not same x x";
            String always = "all x day same x x";
            String[] texts = {"and " + men + " " + fewer, "and " + men + " " + never, "and " + never + " " + men,
                "or " + men + " " + never, "or " + never + " " + fewer, "if " + men + " " + fewer,
                "if " + men + " " + never, "if " + never + " " + never, "if " + always + " " + fewer, "not " + men,
                "not and " + always + " " + fewer, "not or " + never + " " + never};
            int[] want = {1, 0, 0, 1, 1, 1, 0, 1, 1, 0, 0, 1};
            for (int at = 0; at < texts.length; at++) {
                Tape.guess(x, texts[at]);
                due("so '" + texts[at] + "' in world " + world, x.so(NONE), want[at]);
                due("holds of '" + texts[at] + "' in world " + world, x.holds(0), want[at]);
            }
        }
        // All six not so, or all six so: one world of 64, first and second.
        VillageStories x = sized(3, 2, 1);
        x.relation(0, 1);
        String none = "all x man all y house not r x y";
        String all = "all x man all y house r x y";
        String[] texts = {none, all, "and " + none + " " + none, "and " + all + " " + all, "and " + none + " " + all,
            "or " + none + " " + all, "if " + none + " " + all, "if " + all + " " + none, "if " + none + " " + none,
            "if or " + none + " " + all + " " + none, "and not " + none + " not " + all};
        int[] worlds = {1, 1, 1, 1, 0, 2, 63, 63, 64, 63, 62};
        for (int at = 0; at < texts.length; at++) {
            Tape.guess(x, texts[at]);
            due("holds of '" + texts[at] + "'", x.holds(0), worlds[at]);
        }
    }

    private static void dueSo(VillageStories x, String text, boolean want) {
        Tape.guess(x, text);
        due("fault of '" + text + "'", x.fault(0), 0);
        due("so '" + text + "' with " + x.many(8), x.so(NONE), want ? 1 : 0);
    }

    // ---- "RELATIONS, at most 4"

    private static void noRelation() {
        VillageStories x = new VillageStories();
        due("facts", x.facts(), 0);
        due("one world, of no facts", x.worlds(), 1);
        due("one form", x.forms(), 1);
        due("form(0)", x.form(0), true);
        due("form(1)", x.form(1), false);
        due("name", x.name(), false);
        due("questions", x.questions(), 0);
        due("near", x.near(), 0);
        due("settle", x.settle(0), NONE);
        due("settle", x.settle(3), NONE);
        due("sure", x.sure(0, 0, 0), NONE);
        due("keep", x.keep(3), true);
        due("apart", x.apart(3), 0);
        due("a REL that there is not", Tape.story(x, "all x man r x"), NONE);
        due("fault", x.fault(0), 1);
        due("place", x.fault(1), 10);
        due("a text of none", Tape.story(x, "some x man some y man not same x y"), 0);
        due("so", x.so(0), 1);
        due("worlds", x.worlds(), 1);
        due("without", x.without(0), 1);
        due("least", x.least(0), 2);
        x.size(0, 1);
        due("of one man", x.so(0), 0);
        due("worlds", x.worlds(), 0);
        due("without", x.without(0), 1);
        due("core", x.core(0), 0);
        Tape.guess(x, "all x house same x x");
        due("holds in no world", x.holds(0), 0);
        x.size(0, 3);
        due("holds in one", x.holds(0), 1);
        due("holds in one form", x.holds(1), 1);
        due("against", x.against(), false);
        Tape.guess(x, "not all x house same x x");
        due("holds in none", x.holds(0), 0);
        due("against", x.against(), true);
    }

    private static void fourRelations() {
        VillageStories x = sized(3, 1, 1);
        String[] names = {"r", "s", "t", "u"};
        for (int r = 0; r < 4; r++) {
            due("'" + names[r] + "' too early", Tape.guess(x, "all x man " + names[r] + " x"), NONE);
            due("its place", x.fault(1), 10);
            due("relation", x.relation(0, NONE), r);
            due("many(3)", x.many(3), r + 1);
            due("'" + names[r] + "'", Tape.guess(x, "all x man " + names[r] + " x"), 2);
            due("worlds", x.worlds(), 1L << 3 * (r + 1));
            // As many as there are sets of three with repeats of 2, 4, 8, 16.
            due("forms", x.forms(), new int[] {4, 20, 120, 816}[r]);
        }
        due("a fifth", x.relation(0, NONE), NONE);
        due("many(3)", x.many(3), 4);
        due("facts", x.facts(), 12);
        Tape.story(x, "all x man and r x and s x and t x not u x");
        due("worlds", x.worlds(), 1);
        due("forms", x.forms(), 1);
        due("near", x.near(), 9);
        for (int r = 0; r < 4; r++) {
            for (int i = 0; i < 3; i++) {
                due("fact", x.fact(r, i, 0), r == 3 ? 0 : 1);
                due("sure", x.sure(r, i, 0), r == 3 ? 0 : 1);
                due("cause", x.cause(r, i, 0, 0), 0);
            }
        }
    }

    private static void relationsOfAllKinds() {
        for (int first = -2; first <= 4; first++) {
            for (int second = -3; second <= 4; second++) {
                VillageStories x = sized(1, 2, 3);
                boolean isOne = first >= 0 && first <= 2 && second >= NONE && second <= 2;
                due("relation(" + first + ", " + second + ")", x.relation(first, second), isOne ? 0 : NONE);
                due("facts", x.facts(), !isOne ? 0 : (first + 1) * (second == NONE ? 1 : second + 1));
                due("many(3)", x.many(3), isOne ? 1 : 0);
            }
        }
    }

    // ---- "where they are more than 12, what is asked in 4. and 5. (but LEAST SIZES) can't be told"

    private static void twelveFacts() {
        VillageStories x = sized(3, 3, 3);
        x.relation(0, 1);
        x.relation(2, NONE);
        due("facts", x.facts(), 12);
        due("worlds", x.worlds(), 4096);
        // Tables of three by three up to their rows and columns: 36; sets of days by how many: 4.
        due("forms", x.forms(), 36 * 4);
        due("form, the last", x.form(143), true);
        due("it is all so", x.many(8), 12);
        due("form, one more", x.form(144), false);
        due("name", x.name(), false);
        due("keep", x.keep(0), true);
        due("form(0)", x.form(0), true);
        due("it is all not so", x.many(8), 0);
        due("apart", x.apart(0), 12);
        due("sure", x.sure(1, 2, 0), NONE);
        due("questions", x.questions(), NONE);
        due("settle(0)", x.settle(0), 0);
        due("settle(3)", x.settle(3), 2048);
        due("near", x.near(), 0);
        Tape.guess(x, "some x day s x");
        due("holds(0)", x.holds(0), 512 * 7);
        due("holds(1)", x.holds(1), 36 * 3);
        due("against", x.against(), true);
        due("without", x.without(0), NONE);
        due("a story", Tape.story(x, "all x man all y house r x y"), 0);
        due("without(0)", x.without(0), 4096);
        due("worlds", x.worlds(), 8);
        due("questions", x.questions(), 3);
        due("cause", x.cause(0, 2, 2, 0), 0);
        for (int place = 0; place < 12; place++) {
            due("known", x.known(place < 9 ? 0 : 1, place < 9 ? place / 3 : place - 9, place % 3, true), true);
        }
        due("one world is left", x.worlds(), 1);
        due("near", x.near(), 12);
        due("all is so", x.many(8), 12);
    }

    private static void thirteenFacts() {
        VillageStories x = sized(3, 1, 2);
        x.relation(0, 0);
        x.relation(0, NONE);
        x.relation(1, NONE);
        due("facts", x.facts(), 13);
        Tape.story(x, "all x man s x");
        Tape.guess(x, "all x man s x");
        x.tell(0, 1, 0, true);
        x.keep(2);
        due("worlds", x.worlds(), NONE);
        due("forms", x.forms(), NONE);
        due("form", x.form(0), false);
        due("name", x.name(), false);
        due("apart", x.apart(2), NONE);
        due("core", x.core(0), NONE);
        due("without", x.without(0), NONE);
        due("questions", x.questions(), NONE);
        due("near", x.near(), NONE);
        due("against", x.against(), false);
        for (int what = 0; what < 4; what++) {
            due("settle", x.settle(what), NONE);
            due("holds", x.holds(what), NONE);
        }
        for (int i = 0; i < 3; i++) {
            due("sure", x.sure(1, i, 0), NONE);
            due("cause", x.cause(1, i, 0, 0), NONE);
        }
        for (int kind = 0; kind < 3; kind++) {
            due("but least sizes", x.least(kind), 1);
        }
        due("but so", x.so(0), 0);
        due("but so of the guess", x.so(NONE), 0);
        due("but breaks", x.breaks(0, 0), 0);
        due("the world stays", x.fact(0, 1, 0), 1);
        due("as many as it was", x.many(8), 1);
        Tape.story(x, "not all x man s x");
        due("core of no world", x.core(0), NONE);
        due("least of no world", x.least(0), NONE);
        // The twelve at other sizes can be told again, and the thirteen can't.
        x.size(0, 2);
        due("seven facts", x.worlds(), 0);
        due("core of seven facts", x.core(1), 1);
        x.strike(1);
        due("seven facts", x.worlds(), 32);
        x.size(0, 3);
        due("thirteen again", x.worlds(), NONE);
        x.size(1, 2);
        due("fourteen", x.worlds(), NONE);
        due("facts", x.facts(), 14);
    }

    private static void allFactsAtOnce() {
        VillageStories x = sized(3, 3, 3);
        for (int r = 0; r < 4; r++) {
            x.relation(r % 3, (r + 1) % 3);
        }
        due("facts", x.facts(), 36);
        Tape.story(x, "all x man all y house r x y");
        Tape.guess(x, "some x man some y house u x y");
        for (int place = 0; place < 36; place++) {
            due("tell", x.tell(place / 9, place / 3 % 3, place % 3, true), true);
            due("many(8)", x.many(8), place + 1);
            due("so", x.so(0), place >= 8 ? 1 : 0);
            due("so of the guess", x.so(NONE), place >= 27 ? 1 : 0);
        }
        x.tell(0, 2, 1, false);
        due("breaks", x.breaks(0, 0), 2);
        due("breaks", x.breaks(0, 1), 1);
        x.keep(0);
        x.image(0);
        x.size(0, 2);
        due("none is so", x.many(8), 0);
        x.again(0);
        due("35 are so", x.many(8), 35);
        due("least", x.least(2), 1);
    }

    // ---- "none of which is so at first, and again whenever a SIZE is told or a RELATION comes; .."

    private static void worldComesAnew() {
        VillageStories x = sized(3, 3, 3);
        x.relation(0, 1);
        x.relation(0, NONE);
        for (int change = 0; change < 5; change++) {
            x.tell(0, 1, 0, true);
            x.tell(1, 0, 0, true);
            for (int place = 0; place < 4; place++) {
                due("apart, none is kept", x.apart(place), NONE);
                due("keep", x.keep(place), true);
                due("apart", x.apart(place), 0);
            }
            due("a size that it is", x.size(change % 3, x.many(change % 3)), false);
            due("a size that there is not", x.size(change % 3, 4), false);
            due("a relation that there is not", x.relation(3, 0), NONE);
            due("the world stays", x.many(8), 2);
            due("the kept ones stay", x.apart(3), 0);
            // The third SIZE is of a KIND of which there is no RELATION.
            boolean isTold = change < 3 ? x.size(change, 2) : x.relation(change - 3, NONE) == change - 1;
            due("told", isTold, true);
            due("none is so", x.many(8), 0);
        }
        for (int place = 0; place < 4; place++) {
            due("apart, none is kept", x.apart(place), NONE);
        }
        // Back to the SIZE of before: what was so then is not so again.
        VillageStories y = new VillageStories();
        y.relation(0, NONE);
        y.tell(0, 0, 0, true);
        y.size(0, 1);
        y.size(0, 2);
        due("none is so", y.fact(0, 0, 0), 0);
        // What else is told stays.
        Tape.story(y, "some x man r x");
        Tape.guess(y, "all x man r x");
        y.known(0, 1, 0, true);
        y.feed(1, 2, 3, 4, 5);
        y.size(0, 3);
        y.relation(1, NONE);
        due("the story stays", y.many(4), 1);
        due("the guess stays", y.many(9), 2);
        due("what is known stays", y.many(10), 1);
        due("the tape stays", y.end(20), 20);
        due("they count", y.worlds(), 16);
        due("they count", y.holds(0), 4);
    }

    // ---- "KNOWN, told on the DAY of now, at most 40 times"

    private static void fortyKnown() {
        VillageStories x = new VillageStories();
        x.relation(0, NONE);
        for (int times = 1; times <= 40; times++) {
            due("known", x.known(0, 0, 0, times % 2 == 1), true);
            due("many(10)", x.many(10), times);
            due("told anew it is that", x.sure(0, 0, 0), times % 2);
        }
        due("the 41st", x.known(0, 0, 0, true), false);
        due("the 41st, as it is", x.known(0, 0, 0, false), false);
        due("the 41st, of another fact", x.known(0, 1, 0, true), false);
        due("many(10)", x.many(10), 40);
        due("it is not that", x.sure(0, 0, 0), 0);
        due("nor is that", x.sure(0, 1, 0), NONE);
        x.day(1);
        due("nor on another day", x.known(0, 0, 0, true), false);
        VillageStories y = new VillageStories();
        y.relation(0, NONE);
        for (int times = 1; times <= 39; times++) {
            y.known(0, 2, 0, true);
        }
        y.known(0, 3, 0, true);
        y.known(1, 0, 0, true);
        due("refused ones aren't counted", y.many(10), 39);
        y.image(0);
        due("the fortieth", y.known(0, 1, 0, true), true);
        due("the 41st", y.known(0, 1, 0, true), false);
        due("it counts", y.worlds(), 2);
        y.again(0);
        due("39 by the image", y.many(10), 39);
        due("the fortieth", y.known(0, 1, 0, false), true);
        due("it counts", y.sure(0, 1, 0), 0);
    }

    // ---- "(of a RELATION and numbers, as it may be at some SIZES: 0 .. 2)", "counts for nothing"

    private static void knownOfFactsThatAreNot() {
        VillageStories x = sized(1, 1, 1);
        x.relation(0, 1);
        x.relation(2, NONE);
        for (int i = 0; i < 3; i++) {
            for (int j = 0; j < 3; j++) {
                due("known", x.known(0, i, j, (i + j) % 2 == 0), true);
            }
            due("known of one kind", x.known(1, i, -7, i != 1), true);
        }
        due("two facts are known, of two", x.worlds(), 1);
        for (int men = 1; men <= 3; men++) {
            for (int houses = 1; houses <= 3; houses++) {
                x.size(0, men);
                x.size(1, houses);
                due("all is known", x.worlds(), 1);
                x.near();
                for (int i = 0; i < men; i++) {
                    for (int j = 0; j < houses; j++) {
                        due("as it is known", x.fact(0, i, j), (i + j) % 2 == 0 ? 1 : 0);
                    }
                }
            }
        }
        x.size(2, 3);
        due("of one kind, too", x.worlds(), 1);
        due("of one kind, too", x.sure(1, 1, 99), 0);
        due("of one kind, too", x.sure(1, 2, -99), 1);
        due("least sizes, whatever is known", Tape.story(x, "all x man all y house not r x y"), 0);
        due("none here", x.worlds(), 0);
        due("least", x.least(0), 1);
    }

    // ---- "KNOWN is what was told last of each FACT by then"

    private static void knownByDays() {
        VillageStories x = new VillageStories();
        x.relation(0, NONE);
        x.day(1);
        x.known(0, 0, 0, true);
        x.day(3);
        x.known(0, 0, 0, true);
        x.known(0, 0, 0, false);
        x.known(0, 1, 0, true);
        x.day(5);
        x.known(0, 0, 0, true);
        int[] first = {NONE, 1, 1, 0, 0, 1};
        int[] second = {NONE, NONE, NONE, 1, 1, 1};
        for (int day = 0; day <= 5; day++) {
            x.view(day);
            due("first man on day " + day, x.sure(0, 0, 0), first[day]);
            due("second man on day " + day, x.sure(0, 1, 0), second[day]);
            due("how often, in all", x.many(10), 5);
        }
        x.view(4);
        due("told today, not by the view", x.known(0, 0, 0, true), true);
        due("first man on day 4", x.sure(0, 0, 0), 0);
        x.view(NONE);
        due("first man now", x.sure(0, 0, 0), 1);
    }

    // ---- "reach: by one FACT or several", "tree: each has at most one second one, and none reaches itself"

    private static void trees() {
        for (int size = 1; size <= 3; size++) {
            VillageStories x = sized(2, size, 2);
            x.relation(1, 1);
            // As many forests with roots, of one, two, three by names.
            Tape.story(x, "tree r");
            due("trees of " + size, x.worlds(), new int[] {0, 1, 3, 16}[size]);
            due("trees of " + size + " up to names", x.forms(), new int[] {0, 1, 2, 4}[size]);
            x.strike(0);
            Tape.story(x, "all x house not reach r x x");
            due("without rounds, of " + size, x.worlds(), new int[] {0, 1, 3, 25}[size]);
            x.strike(1);
            Tape.story(x, "all x house all y house reach r x y");
            // Of one: itself. Of more each must reach itself by going round; a fact from itself to itself is free.
            due("all reach all, of " + size, x.worlds(), new int[] {0, 1, 4, 18 * 8}[size]);
            x.strike(2);
            Tape.story(x, "all x house all y house not reach r x y");
            due("none reaches any, of " + size, x.worlds(), 1);
        }
        VillageStories x = sized(3, 2, 2);
        x.relation(0, 0);
        Tape.guess(x, "some x man some y man and reach r x y not r x y");
        x.tell(0, 2, 1, true);
        due("one behind the other", x.so(NONE), 0);
        x.tell(0, 1, 0, true);
        due("one behind the other", x.so(NONE), 1);
        x.tell(0, 2, 0, true);
        due("one alone", x.so(NONE), 0);
        Tape.guess(x, "tree r");
        due("two second ones", x.so(NONE), 0);
        x.tell(0, 2, 1, false);
        due("two first ones", x.so(NONE), 1);
        x.tell(0, 0, 0, true);
        due("itself", x.so(NONE), 0);
    }

    /** Four relations of men: each has its own ways, whatever is asked before it, and of whatever world. */
    private static void treesOfFour() {
        VillageStories x = sized(3, 2, 2);
        String[] names = {"r", "s", "t", "u"};
        for (int relation = 0; relation < 4; relation++) {
            x.relation(0, 0);
        }
        for (int walked = 0; walked < 4; walked++) {
            x.tell(walked, 2, 1, true);
            x.tell(walked, 1, 0, true);
            for (int one = 0; one < 4; one++) {
                for (int other = 0; other < 4; other++) {
                    Tape.guess(x, "some x man some y man and reach " + names[one] + " x y not reach " + names[other] + " x y");
                    due("a way by " + names[one] + " alone", x.so(NONE), one == walked && other != walked ? 1 : 0);
                    Tape.guess(x, "or not tree " + names[one] + " some x man reach " + names[other] + " x x");
                    due("no tree, or a round", x.so(NONE), 0);
                }
            }
            x.tell(walked, 0, 2, true);
            for (int one = 0; one < 4; one++) {
                for (int other = 0; other < 4; other++) {
                    Tape.guess(x, "and tree " + names[one] + " not tree " + names[other]);
                    due("a tree, and no tree", x.so(NONE), one != walked && other == walked ? 1 : 0);
                }
            }
            x.tell(walked, 2, 1, false);
            x.tell(walked, 1, 0, false);
            x.tell(walked, 0, 2, false);
        }
        // Of two each: a tree of three, and one that is no tree, of sixteen; all of both in one text.
        VillageStories y = sized(2, 2, 2);
        y.relation(0, 0);
        y.relation(1, 1);
        y.relation(0, 0);
        Tape.guess(y, "and tree r not tree s");
        due("holds", y.holds(0), 3 * 13 * 16);
        y.size(0, 1);
        y.size(1, 3);
        due("holds", y.holds(0), (512 - 16) * 2);
        Tape.guess(y, "all x house all y house if reach s x y s x y");
        // Those of three that hold all that is reached: as many as there are transitive ones.
        due("holds", y.holds(0), 171 * 4);
    }

    // ---- "STORIES, at most 8, from 0 on"

    private static void eightStories() {
        VillageStories x = threeFacts();
        for (int story = 0; story < 8; story++) {
            due("worlds", x.worlds(), 8 - story);
            due("story", Tape.story(x, notThisOne(story)), story);
            due("many(4)", x.many(4), story + 1);
            due("many(7)", x.many(7), (1 << story + 1) - 1);
        }
        due("no world", x.worlds(), 0);
        for (int story = 0; story < 8; story++) {
            due("without", x.without(story), 1);
            due("core", x.core(story), story);
        }
        due("core(8)", x.core(8), NONE);
        due("a ninth", Tape.story(x, notThisOne(0)), -2);
        due("many(4)", x.many(4), 8);
        due("many(7)", x.many(7), 255);
        due("without(8)", x.without(8), NONE);
        for (int story = 0; story < 8; story++) {
            due("strike", x.strike(story), true);
            due("worlds", x.worlds(), story + 1);
            due("a ninth still", Tape.story(x, "all x man r x"), -2);
            due("many(4)", x.many(4), 8);
        }
        due("strike(8)", x.strike(8), false);
        due("many(7)", x.many(7), 0);
        due("so of a struck one", x.so(7), 1);
    }

    // ---- "DAYS go from 0 on, to 999"

    private static void days() {
        VillageStories x = threeFacts();
        due("many(5)", x.many(5), 0);
        due("day(-1)", x.day(-1), false);
        due("day(0)", x.day(0), true);
        Tape.story(x, "all x man r x");
        due("day(998)", x.day(998), true);
        due("day(997)", x.day(997), false);
        due("view(999), later", x.view(999), false);
        due("day(1000)", x.day(1000), false);
        due("many(5)", x.many(5), 998);
        due("day(999)", x.day(999), true);
        Tape.story(x, "all x house s x");
        x.known(2, 0, 0, true);
        x.strike(0);
        due("day(999) anew", x.day(999), true);
        due("day(1000)", x.day(1000), false);
        due("day(998)", x.day(998), false);
        due("many(5)", x.many(5), 999);
        due("view(998)", x.view(998), true);
        due("many(7)", x.many(7), 1);
        due("worlds", x.worlds(), 4);
        due("view(999)", x.view(999), true);
        due("many(7)", x.many(7), 2);
        due("worlds", x.worlds(), 2);
        due("view(1000)", x.view(1000), false);
        due("many(6)", x.many(6), 999);
    }

    // ---- "THE VIEW is a DAY up to now, or NOW: all STORIES are those told by the end of that DAY, .."

    private static void views() {
        VillageStories x = threeFacts();
        due("many(6): now", x.many(6), NONE);
        x.day(2);
        Tape.story(x, "all x man r x");
        Tape.story(x, "all x house s x");
        due("struck on the day that it was told", x.strike(1), true);
        x.day(4);
        x.strike(0);
        x.day(5);
        Tape.story(x, "all x day not t x");
        int[] stories = {0, 0, 1, 1, 0, 4};
        int[] worlds = {8, 8, 4, 4, 8, 4};
        for (int day = 0; day <= 5; day++) {
            due("view(" + day + ")", x.view(day), true);
            due("many(6)", x.many(6), day);
            due("many(7) on day " + day, x.many(7), stories[day]);
            due("worlds on day " + day, x.worlds(), worlds[day]);
            due("without(0)", x.without(0), stories[day] == 1 ? 8 : NONE);
            due("without(1)", x.without(1), NONE);
            due("without(2)", x.without(2), stories[day] == 4 ? 8 : NONE);
            due("sure", x.sure(0, 0, 0), stories[day] == 1 ? 1 : NONE);
            due("cause", x.cause(2, 0, 0, 0), stories[day] == 4 ? 2 : NONE);
            due("so, whatever the view", x.so(0), 0);
            due("so, whatever the view", x.so(2), 1);
            due("breaks", x.breaks(0, 0), 0);
        }
        due("view(6), later than now", x.view(6), false);
        due("view(-2), none", x.view(-2), false);
        due("it stays", x.many(6), 5);
        x.day(7);
        Tape.story(x, "all x house s x");
        due("a day stays that day", x.many(7), 4);
        due("view(6), earlier", x.view(6), true);
        due("many(7)", x.many(7), 4);
        due("view(7), now", x.view(7), true);
        due("many(7)", x.many(7), 12);
        due("view(NONE)", x.view(NONE), true);
        x.day(8);
        x.strike(3);
        due("now goes on", x.many(7), 4);
        due("many(6)", x.many(6), NONE);
        x.view(7);
        due("not struck by then", x.many(7), 12);
        due("strike, told already", x.strike(3), false);
        Tape.story(x, "all x man not r x");
        due("strike one that the view has not", x.strike(4), true);
        due("it is struck now", x.strike(4), false);
        viewsAskedInAnyOrder();
    }

    /** A later view is asked before an earlier one, a guess before a story that is told later. */
    private static void viewsAskedInAnyOrder() {
        VillageStories x = threeFacts();
        Tape.story(x, "all x man r x");
        x.day(1);
        x.strike(0);
        Tape.story(x, "all x house s x");
        due("now", x.worlds(), 4);
        due("now", x.sure(0, 0, 0), NONE);
        due("now", x.sure(1, 0, 0), 1);
        x.view(0);
        due("on day 0", x.worlds(), 4);
        due("on day 0", x.sure(0, 0, 0), 1);
        due("on day 0", x.sure(1, 0, 0), NONE);
        VillageStories y = threeFacts();
        for (int story = 0; story < 7; story++) {
            Tape.story(y, "all x man r x");
        }
        Tape.guess(y, "all x house s x");
        due("of seven stories", y.holds(0), 2);
        Tape.story(y, "all x day t x");
        due("of eight stories", y.holds(0), 1);
        due("of eight stories", y.worlds(), 2);
    }

    // ---- "A STORY BREAKS at the least row of those that its first VARS are, .. as many as it begins with all"

    private static void breaks() {
        String[] heads = {"", "all x man ", "all x man all y house ", "all x man all y house all z day ",
            "all x man all y house all z day all w man "};
        for (int alls = 1; alls <= 4; alls++) {
            VillageStories x = sized(3, 2, 1);
            x.relation(0, NONE);
            Tape.story(x, heads[alls] + "r x");
            for (int k = 0; k < 6; k++) {
                due("breaks", x.breaks(0, k), k < alls ? 0 : NONE);
            }
            x.tell(0, 0, 0, true);
            x.tell(0, 1, 0, true);
            for (int k = 0; k < 6; k++) {
                due("breaks", x.breaks(0, k), k == 0 ? 2 : k < alls ? 0 : NONE);
            }
            x.tell(0, 2, 0, true);
            for (int k = -1; k < 6; k++) {
                due("it is so", x.breaks(0, k), NONE);
            }
        }
        // The last row of all.
        VillageStories x = sized(3, 3, 3);
        x.relation(0, NONE);
        x.relation(1, NONE);
        x.relation(2, NONE);
        Tape.story(x, "all x man all y house all z day all w man if and r x and s y t z not r w");
        for (int r = 0; r < 3; r++) {
            x.tell(r, 2, 0, true);
        }
        for (int k = 0; k < 4; k++) {
            due("the last row", x.breaks(0, k), 2);
        }
        due("breaks(0, 4)", x.breaks(0, 4), NONE);
        String[] others = {"some x man r x", "least 1 x man r x", "most 0 x man not r x", "not all x man not r x",
            "and all x man r x all x man r x", "or all x man r x all x man r x"};
        VillageStories y = new VillageStories();
        y.relation(0, NONE);
        for (int story = 0; story < others.length; story++) {
            Tape.story(y, others[story]);
            due("not so", y.so(story), 0);
            due("it begins with no all", y.breaks(story, 0), NONE);
        }
        Tape.story(y, "all x man some y man all z man r z");
        due("one all to begin with", y.breaks(6, 0), 0);
        due("one all to begin with", y.breaks(6, 1), NONE);
    }

    // ---- no WORLDS, no STORY, no GUESS

    private static void noWorlds() {
        VillageStories x = threeFacts();
        Tape.story(x, "not all x man same x x");
        Tape.guess(x, "all x man same x x");
        x.tell(0, 0, 0, true);
        due("worlds", x.worlds(), 0);
        due("forms", x.forms(), 0);
        due("form(0)", x.form(0), false);
        due("sure", x.sure(0, 0, 0), NONE);
        due("cause", x.cause(0, 0, 0, 0), NONE);
        due("without(0)", x.without(0), 8);
        due("questions", x.questions(), NONE);
        due("settle(3)", x.settle(3), NONE);
        due("near", x.near(), NONE);
        due("holds(0)", x.holds(0), 0);
        due("holds(1)", x.holds(1), 0);
        due("against", x.against(), false);
        due("least", x.least(0), NONE);
        due("core(0)", x.core(0), 0);
        due("the world stays", x.many(8), 1);
        for (int r = 0; r < 3; r++) {
            x.known(r, 0, 0, true);
        }
        due("as it is known", x.without(0), 1);
        due("nothing is sure without worlds", x.sure(0, 0, 0), NONE);
    }

    private static void noStory() {
        VillageStories x = threeFacts();
        due("worlds", x.worlds(), 8);
        due("forms", x.forms(), 8);
        due("sure", x.sure(0, 0, 0), NONE);
        due("core", x.core(0), NONE);
        due("without(0)", x.without(0), NONE);
        due("questions", x.questions(), 3);
        due("settle(0)", x.settle(0), 0);
        due("settle(3)", x.settle(3), 4);
        due("near", x.near(), 0);
        due("least", x.least(0), 1);
        due("many(4)", x.many(4), 0);
        due("many(7)", x.many(7), 0);
        due("so(0)", x.so(0), NONE);
        due("breaks(0, 0)", x.breaks(0, 0), NONE);
        due("strike(0)", x.strike(0), false);
        x.known(0, 0, 0, false);
        due("sure, as it is known", x.sure(0, 0, 0), 0);
        due("by no story", x.cause(0, 0, 0, 0), NONE);
    }

    private static void noGuess() {
        VillageStories x = threeFacts();
        due("so(NONE)", x.so(NONE), NONE);
        due("holds(0)", x.holds(0), NONE);
        due("holds(1)", x.holds(1), NONE);
        due("against", x.against(), false);
        due("many(9)", x.many(9), 0);
        x.image(0);
        due("a guess with a fault", Tape.guess(x, "r x"), NONE);
        due("so(NONE)", x.so(NONE), NONE);
        due("many(9)", x.many(9), 0);
        Tape.story(x, "all x man r x");
        due("a story is no guess", x.holds(0), NONE);
        due("a guess", Tape.guess(x, "all x man r x"), 2);
        due("so(NONE)", x.so(NONE), 0);
        due("holds(0)", x.holds(0), 4);
        due("holds(1)", x.holds(1), 4);
        due("against", x.against(), false);
        due("a guess is no story", x.many(4), 1);
        x.again(0);
        due("no guess again", x.so(NONE), NONE);
        due("no guess again", x.holds(0), NONE);
        due("no guess again", x.many(9), 0);
    }

    // ---- "A ROW is less than another one, if at the first FACT in which they differ it is not so"

    private static void rowsInOrder() {
        VillageStories x = threeFacts();
        for (int k = 0; k < 8; k++) {
            due("form", x.form(k), true);
            for (int r = 0; r < 3; r++) {
                due("fact " + r + " of form " + k, x.fact(r, 0, 0), k >> 2 - r & 1);
            }
        }
        due("form(8)", x.form(8), false);
        due("form(-1)", x.form(-1), false);
        due("the last one stays", x.many(8), 3);
        VillageStories y = sized(2, 3, 2);
        y.relation(1, NONE);
        for (int k = 0; k < 4; k++) {
            due("form", y.form(k), true);
            for (int i = 0; i < 3; i++) {
                due("house " + i + " of form " + k, y.fact(0, i, 0), i >= 3 - k ? 1 : 0);
            }
            due("it has the least row", y.name(), false);
        }
        due("form(4)", y.form(4), false);
        // Each row of three by other numbers.
        for (int row = 0; row < 8; row++) {
            for (int i = 0; i < 3; i++) {
                y.tell(0, i, 0, (row >> i & 1) == 1);
            }
            boolean isLeast = row == 0 || row == 4 || row == 6 || row == 7;
            due("name", y.name(), !isLeast);
            due("as many", y.many(8), Integer.bitCount(row));
            due("the last house", y.fact(0, 2, 0), row == 0 ? 0 : 1);
        }
        // One alone has no other number, whatever the others have.
        for (int size = 1; size <= 3; size++) {
            VillageStories z = sized(1, size, 1);
            for (int kind = 0; kind < 3; kind++) {
                z.relation(kind, NONE);
            }
            z.tell(0, 0, 0, true);
            z.tell(1, 0, 0, true);
            z.tell(2, 0, 0, true);
            due("name", z.name(), size > 1);
            due("the man", z.fact(0, 0, 0), 1);
            due("the last house", z.fact(1, size - 1, 0), 1);
            due("the day", z.fact(2, 0, 0), 1);
            due("as many", z.many(8), 3);
            z.keep(0);
            z.tell(0, 0, 0, false);
            due("apart by the man", z.apart(0), 1);
        }
    }

    // ---- "LEAST SIZES: of SIZES with at most 12 FACTS ..; of several the least row (men, houses, days)"

    private static void leastSizes() {
        String[] kinds = {"man", "house", "day"};
        for (int men = 1; men <= 3; men++) {
            for (int houses = 1; houses <= 3; houses++) {
                for (int days = 1; days <= 3; days++) {
                    VillageStories x = new VillageStories();
                    int[] sizes = {men, houses, days};
                    for (int kind = 0; kind < 3; kind++) {
                        Tape.story(x, "least " + sizes[kind] + " x " + kinds[kind] + " same x x");
                    }
                    for (int kind = 0; kind < 3; kind++) {
                        due("least", x.least(kind), sizes[kind]);
                        due("the sizes stay", x.many(kind), 2);
                    }
                }
            }
        }
        VillageStories x = new VillageStories();
        Tape.story(x, "least 4 x man same x x");
        due("four are too many", x.least(0), NONE);
        due("four are too many", x.least(1), NONE);
        VillageStories y = sized(3, 3, 3);
        y.relation(0, 1);
        y.relation(2, NONE);
        Tape.story(y, "and least 3 x man same x x and least 3 x house same x x least 3 x day same x x");
        due("twelve facts", y.least(0), 3);
        y.relation(2, NONE);
        due("fifteen facts", y.least(0), NONE);
        VillageStories z = new VillageStories();
        z.relation(0, 0);
        z.relation(0, NONE);
        Tape.story(z, "least 3 x man same x x");
        due("twelve facts", z.least(0), 3);
        z.relation(1, NONE);
        due("thirteen facts", z.least(0), NONE);
        // The fewest together go before the least row.
        VillageStories w = new VillageStories();
        Tape.story(w, "or least 3 x day same x x least 2 x man same x x");
        due("fewest together", w.least(0), 2);
        due("fewest together", w.least(2), 1);
        Tape.story(w, "or least 3 x day same x x least 2 x house same x x");
        due("of several the least row", w.least(0), 1);
        due("of several the least row", w.least(1), 1);
        due("of several the least row", w.least(2), 3);
    }

    // ---- "CORE, if there is no WORLD: the fewest of the STORIES ..; of several the least row of numbers"

    private static void cores() {
        VillageStories x = threeFacts();
        Tape.story(x, "all x man r x");
        Tape.story(x, "all x house s x");
        Tape.story(x, "all x day t x");
        due("there is a world", x.core(0), NONE);
        x.known(1, 0, 0, false);
        due("core, as it is known", x.core(0), 1);
        due("core, as it is known", x.core(1), NONE);
        x.known(0, 0, 0, false);
        due("of several the first", x.core(0), 0);
        due("of several the first", x.core(1), NONE);
        x.known(0, 0, 0, true);
        x.known(1, 0, 0, true);
        due("there is a world", x.core(0), NONE);
        Tape.story(x, "not and all x man r x all x day t x");
        due("as fewer will do, by what is known", x.core(0), 2);
        due("as fewer will do, by what is known", x.core(1), 3);
        due("as fewer will do, by what is known", x.core(2), NONE);
        Tape.story(x, "not all x day t x");
        due("of several the least row", x.core(0), 2);
        due("of several the least row", x.core(1), 3);
        x.strike(3);
        due("without a struck one", x.core(1), 4);
        x.strike(4);
        due("there is a world", x.core(0), NONE);
        // The row 0, 3 is less than the row 1, 2.
        VillageStories y = threeFacts();
        Tape.story(y, "all x man r x");
        Tape.story(y, "all x house s x");
        Tape.story(y, "all x house not s x");
        Tape.story(y, "all x man not r x");
        due("the least row", y.core(0), 0);
        due("the least row", y.core(1), 3);
        due("the least row", y.core(2), NONE);
        Tape.story(y, "all x day t x");
        Tape.story(y, "all x day not t x");
        due("the least row still", y.core(1), 3);
        y.strike(0);
        due("the next row", y.core(0), 1);
        due("the next row", y.core(1), 2);
    }

    // ---- "CAUSE of it: the fewest of the STORIES ..; of several the least row"

    private static void causes() {
        for (int left = 0; left < 8; left++) {
            VillageStories x = threeFacts();
            for (int world = 0; world < 8; world++) {
                if (world != left) {
                    Tape.story(x, notThisOne(world));
                }
            }
            for (int r = 0; r < 3; r++) {
                int is = left >> 2 - r & 1;
                due("sure", x.sure(r, 0, 0), is);
                int k = 0;
                for (int world = 0; world < 8; world++) {
                    if ((world >> 2 - r & 1) != is) {
                        due("cause", x.cause(r, 0, 0, k), world > left ? world - 1 : world);
                        k++;
                    }
                }
                due("four stories", k, 4);
                due("cause, behind the last", x.cause(r, 0, 0, 4), NONE);
                due("cause(.., -1)", x.cause(r, 0, 0, -1), NONE);
            }
            // An eighth that tells it alone goes before the four.
            due("the eighth", Tape.story(x, ((left & 4) == 0 ? "not " : "") + "all x man r x"), 7);
            due("cause", x.cause(0, 0, 0, 0), 7);
            due("cause", x.cause(0, 0, 0, 1), NONE);
            x.known(0, 0, 0, left >= 4);
            due("sure still", x.sure(0, 0, 0), left >> 2);
            due("by what is known", x.cause(0, 0, 0, 0), NONE);
        }
        // The row 0, 3 is less than the row 1, 2.
        VillageStories y = threeFacts();
        Tape.story(y, "all x man r x");
        Tape.story(y, "all x house s x");
        Tape.story(y, "if some x house s x all x day t x");
        Tape.story(y, "if some x man r x all x day t x");
        due("sure", y.sure(2, 0, 0), 1);
        due("the least row", y.cause(2, 0, 0, 0), 0);
        due("the least row", y.cause(2, 0, 0, 1), 3);
        due("the least row", y.cause(2, 0, 0, 2), NONE);
        y.strike(3);
        due("the next row", y.cause(2, 0, 0, 0), 1);
        due("the next row", y.cause(2, 0, 0, 1), 2);
    }

    // ---- "SETTLE: .. is least; of several the first one"; "NONE: there are no WORLDS, or FACTS"

    private static void settle() {
        VillageStories x = threeFacts();
        due("all alike", x.settle(0), 0);
        Tape.story(x, "or all x man r x or all x house s x all x day not t x");
        due("seven worlds", x.settle(3), 4);
        due("the first of several", x.settle(0), 0);
        x.known(0, 0, 0, true);
        due("another one", x.settle(0), 1);
        due("its greater number", x.settle(3), 2);
        x.known(1, 0, 0, true);
        due("the last one", x.settle(0), 2);
        due("its greater number", x.settle(3), 1);
        x.known(2, 0, 0, true);
        due("one world: the first", x.settle(0), 0);
        due("one world", x.settle(3), 1);
        due("of one kind", x.settle(2), NONE);
        due("settle(4)", x.settle(4), NONE);
        due("settle(-1)", x.settle(-1), NONE);
        VillageStories y = sized(3, 3, 1);
        y.relation(2, NONE);
        y.relation(0, 1);
        y.known(0, 0, 0, true);
        for (int place = 0; place < 9; place++) {
            due("settle(0)", y.settle(0), 1);
            due("settle(1)", y.settle(1), place / 3);
            due("settle(2)", y.settle(2), place % 3);
            due("settle(3)", y.settle(3), 1 << 8 - place);
            y.known(1, place / 3, place % 3, place % 2 == 0);
        }
        due("all is known", y.settle(0), 0);
    }

    // ---- "NEAR: .. in the fewest FACTS; of several that with the least ROW"

    private static void near() {
        VillageStories x = threeFacts();
        Tape.story(x, "or and all x man r x all x house not s x and all x house s x all x man not r x");
        due("near", x.near(), 1);
        due("the least row", x.fact(0, 0, 0), 0);
        due("the least row", x.fact(1, 0, 0), 1);
        x.tell(0, 0, 0, true);
        x.tell(2, 0, 0, true);
        due("near", x.near(), 1);
        due("the least row", x.fact(0, 0, 0), 0);
        due("no more than must be", x.fact(2, 0, 0), 1);
        due("near, as it is", x.near(), 0);
        x.known(1, 0, 0, false);
        due("near", x.near(), 2);
        due("as it is known", x.fact(0, 0, 0), 1);
        due("no more than must be", x.fact(2, 0, 0), 1);
        x.known(2, 0, 0, false);
        x.tell(0, 0, 0, false);
        x.tell(1, 0, 0, true);
        due("near, all else", x.near(), 3);
    }

    // ---- "QUESTIONS: the least d, 0 .. 4"; "NONE: 4 are too few"

    private static void questions() {
        VillageStories x = sized(2, 2, 1);
        x.relation(0, 1);
        x.relation(2, NONE);
        due("32 worlds", x.questions(), NONE);
        Tape.story(x, "if some z day s z all x man all y house r x y");
        due("17 worlds", x.worlds(), 17);
        due("17 worlds", x.questions(), NONE);
        x.known(1, 0, 0, false);
        due("16 worlds", x.worlds(), 16);
        for (int known = 0; known < 4; known++) {
            due("questions", x.questions(), 4 - known);
            x.known(0, known / 2, known % 2, true);
        }
        due("one world", x.questions(), 0);
        Tape.story(x, "some x man some y house not r x y");
        due("no world", x.questions(), NONE);
        // Worlds with one fact each: a question leaves all but one of them.
        int[] wanted = {NONE, 0, 1, 2, 3, 4, NONE, NONE, NONE};
        for (int worlds = 1; worlds <= 8; worlds++) {
            VillageStories y = sized(3, 3, 1);
            y.relation(0, 1);
            Tape.story(y, "some x man some y house and r x y all z man all w house if r z w and same x z same y w");
            for (int place = worlds; place < 9; place++) {
                y.known(0, place / 3, place % 3, false);
            }
            due("worlds", y.worlds(), worlds);
            due("one of " + worlds, y.questions(), wanted[worlds]);
        }
        // What was asked before counts for nothing.
        VillageStories z = sized(3, 2, 2);
        z.relation(0, 1);
        z.image(0);
        for (int place = 2; place < 6; place++) {
            z.known(0, place / 2, place % 2, true);
        }
        due("four worlds", z.questions(), 2);
        z.again(0);
        z.known(0, 0, 0, false);
        z.known(0, 0, 1, false);
        Tape.story(z, "some x man some y house and r x y all z man all w house if r z w and same x z same y w");
        due("four worlds", z.worlds(), 4);
        due("one of four", z.questions(), 3);
    }

    // ---- "APART: in how few FACTS THE WORLD at hand differs from one that a kept one is by other numbers"

    private static void apart() {
        VillageStories x = sized(3, 1, 1);
        x.relation(0, NONE);
        for (int kept = 0; kept < 8; kept++) {
            for (int i = 0; i < 3; i++) {
                x.tell(0, i, 0, (kept >> i & 1) == 1);
            }
            x.keep(kept % 4);
            for (int now = 0; now < 8; now++) {
                for (int i = 0; i < 3; i++) {
                    x.tell(0, i, 0, (now >> i & 1) == 1);
                }
                due("apart", x.apart(kept % 4), Math.abs(Integer.bitCount(now) - Integer.bitCount(kept)));
                due("the world stays", x.many(8), Integer.bitCount(now));
            }
        }
        for (int kind = 0; kind < 3; kind++) {
            for (int size = 1; size <= 3; size++) {
                VillageStories y = new VillageStories();
                y.size(kind, size);
                y.relation(kind, kind);
                // From each to itself, and from each to the next: no other numbers make one of the other.
                for (int i = 0; i < size; i++) {
                    y.tell(0, i, i, true);
                }
                y.keep(2);
                for (int i = 0; i < size; i++) {
                    y.tell(0, i, i, false);
                    y.tell(0, i, (i + 1) % size, true);
                }
                due("apart", y.apart(2), size == 1 ? 0 : 2 * size);
            }
        }
    }

    // ---- "Image k (0 .. 2) is all that is told"; "false if there is none such"

    private static void images() {
        VillageStories x = threeFacts();
        for (int k = 0; k < 3; k++) {
            due("again, none such", x.again(k), false);
        }
        for (int k = 0; k < 3; k++) {
            x.day(10 * (k + 1));
            x.known(k, 0, 0, true);
            Tape.story(x, "all x man r x");
            due("image", x.image(k), true);
            for (int other = k + 1; other < 3; other++) {
                due("again, none such", x.again(other), false);
            }
        }
        due("image(3)", x.image(3), false);
        due("again(3)", x.again(3), false);
        for (int k = 2; k >= 0; k--) {
            due("again", x.again(k), true);
            due("many(4)", x.many(4), k + 1);
            due("the day", x.many(5), 10 * (k + 1));
            due("many(10)", x.many(10), k + 1);
            due("the day may be told anew", x.day(10 * (k + 1) + 1), true);
        }
        due("a later one is still there", x.again(2), true);
        due("the day", x.many(5), 30);
        due("an image of another state", x.image(0), true);
        x.again(1);
        x.again(0);
        due("the day", x.many(5), 30);
        // The tape, the FAULT, THE WORLD, those that are kept, too.
        Tape.guess(x, "tree s");
        x.tell(0, 0, 0, true);
        x.keep(3);
        x.tell(1, 0, 0, true);
        x.feed(0x616c6c20, 0x78206d61, 0x6e207220, 0x78202020, 0x20202020);
        x.image(1);
        x.guess();
        x.tell(2, 0, 0, true);
        x.keep(3);
        x.keep(0);
        x.size(0, 3);
        x.relation(0, 0);
        due("again", x.again(1), true);
        due("the relations", x.many(3), 3);
        due("the sizes", x.many(0), 1);
        due("the fault", x.fault(0), 3);
        due("its place", x.fault(1), 5);
        due("the world", x.many(8), 2);
        due("the kept one", x.apart(3), 1);
        due("none is kept there", x.apart(0), NONE);
        due("no guess", x.many(9), 0);
        due("the tape", x.guess(), 2);
        imagesThatPart();
    }

    /** From one image two ways part; each has what was told on it, at the same places of all rows. */
    private static void imagesThatPart() {
        VillageStories x = threeFacts();
        x.image(0);
        x.day(1);
        Tape.story(x, "all x man r x");
        x.known(1, 0, 0, true);
        x.tell(0, 0, 0, true);
        x.keep(1);
        x.image(1);
        x.again(0);
        Tape.story(x, "all x day t x");
        x.known(2, 0, 0, false);
        x.keep(1);
        x.strike(0);
        x.day(3);
        x.image(2);
        for (int times = 0; times < 2; times++) {
            x.again(1);
            due("one way: worlds", x.worlds(), 2);
            due("one way: sure by the story", x.cause(0, 0, 0, 0), 0);
            due("one way: sure as it is known", x.sure(1, 0, 0), 1);
            due("one way: not sure", x.sure(2, 0, 0), NONE);
            due("one way: the kept one", x.apart(1), 0);
            x.view(0);
            due("one way: told later", x.many(7), 0);
            due("one way: known later", x.worlds(), 8);
            x.again(2);
            due("the other: worlds", x.worlds(), 4);
            due("the other: not sure", x.sure(1, 0, 0), NONE);
            due("the other: sure as it is known", x.sure(2, 0, 0), 0);
            due("the other: the kept one", x.apart(1), 0);
            due("the other: it is struck", x.strike(0), false);
            x.tell(0, 0, 0, true);
            due("the other: the kept one", x.apart(1), 1);
            x.view(0);
            due("the other: known by then", x.worlds(), 4);
            x.again(0);
            due("before: worlds", x.worlds(), 8);
            due("before: none is kept", x.apart(1), NONE);
        }
    }

    // ---- "An object is used for at most 512 calls after it has been made"

    private static void lastCall() {
        VillageStories x = new VillageStories();
        x.relation(0, NONE);
        for (int call = 2; call <= 508; call++) {
            due("tell, call " + call, x.tell(0, call % 2, 0, call / 2 % 2 == 1), true);
        }
        due("many(8), call 509", x.many(8), 1);
        due("worlds, call 510", x.worlds(), 4);
        due("forms, call 511", x.forms(), 3);
        due("form, call 512", x.form(2), true);
    }
}
