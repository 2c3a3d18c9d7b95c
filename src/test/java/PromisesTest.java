/** What the document promises, promise by promise: ordinary calls, the edges, and wrong arguments. */
public final class PromisesTest {
    private static final int NONE = VillageStories.NONE;
    private static final int[] WRONG = {Integer.MIN_VALUE, -3, 11, 400, 1000, Integer.MAX_VALUE};
    private static final Check CHECK = new Check();

    private static final String ONE_HOUSE_EACH = "all x man and some y house r x y most 1 y house r x y";

    private PromisesTest() {
    }

    public static void main(String[] args) {
        newObject();
        size();
        relation();
        facts();
        tellAndFact();
        known();
        keepAndApart();
        feed();
        end();
        story();
        guess();
        fault();
        faultOfManyParts();
        strike();
        dayAndView();
        so();
        breaks();
        worlds();
        forms();
        form();
        name();
        least();
        core();
        sureAndCause();
        without();
        questions();
        settle();
        near();
        holdsAndAgainst();
        many();
        images();
        cannotBeTold();
        CHECK.finish();
    }

    private static void due(String call, long got, long want) {
        CHECK.due(call, got, want);
    }

    private static void due(String call, boolean got, boolean want) {
        CHECK.due(call, got, want);
    }

    /** The world at hand as a row of 0 and 1. */
    private static void dueWorld(String call, VillageStories x, String want) {
        StringBuilder row = new StringBuilder();
        for (int r = 0; r < x.many(3); r++) {
            boolean isOfOne = x.fact(r, 0, 3) != NONE;
            for (int i = 0; i < 3; i++) {
                for (int j = 0; j < (isOfOne ? 1 : 3); j++) {
                    row.append(x.fact(r, i, j) == NONE ? "" : x.fact(r, i, j));
                }
            }
        }
        if (!row.toString().equals(want)) {
            CHECK.fail(call + " left " + row + ", due is " + want);
        }
    }

    /** Only for villages whose relations are all of two kinds. */
    private static void tellWorld(VillageStories x, String row) {
        int at = 0;
        for (int r = 0; r < x.many(3); r++) {
            for (int i = 0; i < 3; i++) {
                for (int j = 0; j < 3; j++) {
                    if (x.fact(r, i, j) != NONE) {
                        x.tell(r, i, j, row.charAt(at) == '1');
                        at++;
                    }
                }
            }
        }
    }

    private static void newObject() {
        VillageStories x = new VillageStories();
        due("NONE", VillageStories.NONE, -1);
        int[] many = {2, 2, 2, 0, 0, 0, NONE, 0, 0, 0, 0};
        for (int what = 0; what < many.length; what++) {
            due("new: many(" + what + ")", x.many(what), many[what]);
        }
        due("new: facts", x.facts(), 0);
        due("new: fault(0)", x.fault(0), 0);
        due("new: fault(1)", x.fault(1), NONE);
        due("new: end(0)", x.end(0), 0);
        due("new: end(1)", x.end(1), NONE);
        due("new: so(NONE)", x.so(NONE), NONE);
        due("new: so(0)", x.so(0), NONE);
        due("new: worlds", x.worlds(), 1);
        due("new: forms", x.forms(), 1);
        due("new: form(0)", x.form(0), true);
        due("new: name", x.name(), false);
        due("new: questions", x.questions(), 0);
        due("new: near", x.near(), 0);
        for (int k = 0; k < 3; k++) {
            due("new: again", x.again(k), false);
            due("new: least", x.least(k), 1);
        }
        for (int what = 0; what < 4; what++) {
            due("new: settle", x.settle(what), NONE);
            due("new: apart", x.apart(what), NONE);
        }
    }

    private static void size() {
        VillageStories x = new VillageStories();
        due("size(0, 3)", x.size(0, 3), true);
        due("size(0, 3) anew", x.size(0, 3), false);
        due("size(1, 2) as it is", x.size(1, 2), false);
        due("size(2, 1)", x.size(2, 1), true);
        due("size(3, 1)", x.size(3, 1), false);
        due("size(-1, 1)", x.size(-1, 1), false);
        due("size(0, 0)", x.size(0, 0), false);
        due("size(0, 4)", x.size(0, 4), false);
        for (int wrong : WRONG) {
            due("size of a wrong kind", x.size(wrong, 1), false);
            due("size, a wrong one", x.size(0, wrong), false);
        }
        due("many(0)", x.many(0), 3);
        due("many(1)", x.many(1), 2);
        due("many(2)", x.many(2), 1);
        x.relation(0, 1);
        due("facts 3 x 2", x.facts(), 6);
        x.tell(0, 2, 1, true);
        x.keep(0);
        due("size as it is", x.size(0, 3), false);
        due("the world stays", x.fact(0, 2, 1), 1);
        due("the kept one stays", x.apart(0), 0);
        due("size of a kind without relation", x.size(2, 3), true);
        due("the world is gone", x.fact(0, 2, 1), 0);
        due("the kept one is gone", x.apart(0), NONE);
        x.tell(0, 2, 1, true);
        due("size(0, 1)", x.size(0, 1), true);
        due("facts 1 x 2", x.facts(), 2);
        due("size(0, 3)", x.size(0, 3), true);
        due("the world is none", x.many(8), 0);
    }

    private static void relation() {
        VillageStories x = new VillageStories();
        due("relation(3, 0)", x.relation(3, 0), NONE);
        due("relation(-1, 0)", x.relation(-1, 0), NONE);
        due("relation(0, 3)", x.relation(0, 3), NONE);
        due("relation(0, -2)", x.relation(0, -2), NONE);
        for (int wrong : WRONG) {
            due("relation, wrong first", x.relation(wrong, 0), NONE);
            due("relation, wrong second", x.relation(0, wrong), NONE);
        }
        due("relation(0, NONE)", x.relation(0, NONE), 0);
        due("facts", x.facts(), 2);
        x.tell(0, 1, 0, true);
        x.keep(2);
        due("relation, wrong", x.relation(0, 7), NONE);
        due("the world stays", x.fact(0, 1, 0), 1);
        due("the kept one stays", x.apart(2), 0);
        due("relation(1, 1)", x.relation(1, 1), 1);
        due("the world is gone", x.fact(0, 1, 0), 0);
        due("the kept one is gone", x.apart(2), NONE);
        due("relation(2, 0)", x.relation(2, 0), 2);
        due("relation(2, NONE)", x.relation(2, NONE), 3);
        due("facts", x.facts(), 12);
        x.tell(3, 1, 0, true);
        due("a fifth relation", x.relation(0, 0), NONE);
        due("the world stays", x.fact(3, 1, 0), 1);
        due("many(3)", x.many(3), 4);
    }

    private static void facts() {
        VillageStories x = new VillageStories();
        int[] sum = {4, 8, 12, 16};
        for (int r = 0; r < 4; r++) {
            x.relation(0, 1);
            due("facts of " + (r + 1), x.facts(), sum[r]);
        }
        x.size(0, 3);
        due("facts 3 x 2", x.facts(), 24);
        x.size(1, 3);
        due("facts 3 x 3", x.facts(), 36);
        x.size(0, 1);
        due("facts 1 x 3", x.facts(), 12);
    }

    private static void tellAndFact() {
        VillageStories x = new VillageStories();
        due("tell without relations", x.tell(0, 0, 0, true), false);
        due("fact without relations", x.fact(0, 0, 0), NONE);
        x.relation(0, NONE);
        x.relation(0, 1);
        x.size(0, 3);
        due("tell of one kind", x.tell(0, 1, 77, true), true);
        due("fact of one kind", x.fact(0, 1, -9), 1);
        due("tell of one kind, as it is", x.tell(0, 1, 0, true), false);
        due("tell of two", x.tell(1, 2, 1, true), true);
        due("fact of two", x.fact(1, 2, 1), 1);
        due("its neighbour", x.fact(1, 2, 0), 0);
        due("tell of two, as it is", x.tell(1, 2, 1, true), false);
        due("tell, not so", x.tell(1, 2, 1, false), true);
        due("fact, not so", x.fact(1, 2, 1), 0);
        due("tell, not so, as it is", x.tell(1, 2, 1, false), false);
        int[][] wrong = {{-1, 0, 0}, {2, 0, 0}, {0, 3, 0}, {0, -1, 0}, {1, 3, 0}, {1, 0, 2}, {1, 0, -1}};
        for (int[] a : wrong) {
            due("tell, none such", x.tell(a[0], a[1], a[2], true), false);
            due("fact, none such", x.fact(a[0], a[1], a[2]), NONE);
        }
        for (int no : WRONG) {
            due("tell, wrong relation", x.tell(no, 0, 0, true), false);
            due("fact, wrong relation", x.fact(no, 0, 0), NONE);
            due("fact, wrong first", x.fact(1, no, 0), NONE);
            due("fact, wrong second", x.fact(1, 0, no), NONE);
        }
        due("many(8)", x.many(8), 1);
        tellAllOfMany();
    }

    private static void tellAllOfMany() {
        VillageStories x = new VillageStories();
        for (int k = 0; k < 3; k++) {
            x.size(k, 3);
        }
        for (int r = 0; r < 4; r++) {
            x.relation(r % 3, (r + 1) % 3);
        }
        for (int place = 0; place < 36; place++) {
            due("tell", x.tell(place / 9, place / 3 % 3, place % 3, true), true);
            due("many(8)", x.many(8), place + 1);
        }
        for (int place = 0; place < 36; place++) {
            due("fact", x.fact(place / 9, place / 3 % 3, place % 3), 1);
        }
        due("fact of a fifth relation", x.fact(4, 0, 0), NONE);
        due("tell of a fifth relation", x.tell(4, 0, 0, false), false);
        due("known of a fifth relation", x.known(4, 0, 0, false), false);
        due("sure of a fifth relation", x.sure(4, 0, 0), NONE);
    }

    private static void known() {
        VillageStories x = new VillageStories();
        due("known without relations", x.known(0, 0, 0, true), false);
        x.relation(0, NONE);
        x.relation(0, 1);
        due("worlds", x.worlds(), 64);
        due("known of one kind", x.known(0, 0, 99, true), true);
        due("worlds", x.worlds(), 32);
        due("known anew, otherwise", x.known(0, 0, -4, false), true);
        due("worlds", x.worlds(), 32);
        due("it is that", x.sure(0, 0, 0), 0);
        due("known of two", x.known(1, 1, 0, true), true);
        due("worlds", x.worlds(), 16);
        due("known of none that there is", x.known(1, 2, 0, true), true);
        due("known of none that there is", x.known(1, 0, 2, true), true);
        due("known of none that there is", x.known(0, 2, 0, true), true);
        due("it counts for nothing", x.worlds(), 16);
        due("known again as it is", x.known(1, 1, 0, true), true);
        due("many(10)", x.many(10), 7);
        int[][] wrong = {{-1, 0, 0}, {2, 0, 0}, {0, 3, 0}, {0, -1, 0}, {1, 3, 0}, {1, -1, 0}, {1, 0, 3}, {1, 0, -1}};
        for (int[] a : wrong) {
            due("known, none such", x.known(a[0], a[1], a[2], true), false);
        }
        for (int no : WRONG) {
            due("known, wrong", x.known(no, 0, 0, true) || x.known(0, no, 0, true) || x.known(1, 0, no, true), false);
        }
        x.size(0, 3);
        due("now there are three men", x.sure(0, 2, 0), 1);
        due("of one first and one second", x.sure(1, 2, 0), 1);
        due("the world at hand is as it was", x.many(8), 0);
        for (int times = 7; times < 40; times++) {
            due("known", x.known(0, 1, 0, times % 2 == 0), true);
        }
        due("known, the 41st", x.known(0, 1, 0, true), false);
        due("many(10)", x.many(10), 40);
        due("told last: not so", x.sure(0, 1, 0), 0);
    }

    private static void keepAndApart() {
        VillageStories x = new VillageStories();
        x.relation(0, 1);
        due("apart from none", x.apart(0), NONE);
        tellWorld(x, "1000");
        due("keep(0)", x.keep(0), true);
        due("keep(3)", x.keep(3), true);
        due("keep(4)", x.keep(4), false);
        due("keep(-1)", x.keep(-1), false);
        for (int wrong : WRONG) {
            due("keep, wrong", x.keep(wrong), false);
            due("apart, wrong", x.apart(wrong), NONE);
        }
        due("apart(1)", x.apart(1), NONE);
        due("apart(4)", x.apart(4), NONE);
        due("apart(-1)", x.apart(-1), NONE);
        due("apart(0)", x.apart(0), 0);
        tellWorld(x, "0001");
        due("the same by other numbers", x.apart(0), 0);
        tellWorld(x, "1001");
        due("one fact apart", x.apart(3), 1);
        due("keep(0) anew", x.keep(0), true);
        tellWorld(x, "1010");
        due("two apart by any numbers", x.apart(0), 2);
        tellWorld(x, "0000");
        due("apart(0)", x.apart(0), 2);
        apartTogether();
    }

    /** The same other numbers go for all relations: both can't be mended at once. */
    private static void apartTogether() {
        VillageStories x = new VillageStories();
        x.relation(0, NONE);
        x.relation(0, NONE);
        x.tell(0, 0, 0, true);
        x.tell(1, 0, 0, true);
        x.keep(1);
        x.tell(1, 0, 0, false);
        x.tell(1, 1, 0, true);
        due("both of one man, or of two", x.apart(1), 2);
        VillageStories y = new VillageStories();
        y.relation(0, 0);
        tellWorld(y, "1000");
        y.keep(2);
        tellWorld(y, "0100");
        due("himself, or the other one", y.apart(2), 2);
        tellWorld(y, "0001");
        due("the other one himself", y.apart(2), 0);
    }

    private static void feed() {
        VillageStories x = new VillageStories();
        x.relation(0, NONE);
        // "all x man r x" has its last byte as the 13th: the highest of the fourth number.
        due("feed", x.feed(0x616c6c20, 0x78206d61, 0x6e207220, 0x78000000, -1), 20);
        due("end(13)", x.end(13), 13);
        due("story", x.story(), 0);
        for (int times = 1; times <= 20; times++) {
            due("feed", x.feed(-1, 0, 0, 0, 0), 20 * times);
        }
        due("feed, too much", x.feed(0, 0, 0, 0, 0), NONE);
        due("nothing came", x.end(400), 400);
        due("end(381)", x.end(381), 381);
        due("feed, one too much", x.feed(0, 0, 0, 0, 0), NONE);
        due("end(380)", x.end(380), 380);
        due("feed, just enough", x.feed(0, 0, 0, 0, 0), 400);
        due("story", x.story(), NONE);
        due("byte 255", x.fault(1), 0);
        due("the tape is empty", x.feed(0, 0, 0, 0, 0), 20);
    }

    private static void end() {
        VillageStories x = new VillageStories();
        due("end(0) of none", x.end(0), 0);
        due("end(1) of none", x.end(1), NONE);
        x.feed(1, 2, 3, 4, 5);
        due("end(21)", x.end(21), NONE);
        due("end(-1)", x.end(-1), NONE);
        due("end(20)", x.end(20), 20);
        due("end(7)", x.end(7), 7);
        due("end(8)", x.end(8), NONE);
        for (int wrong : WRONG) {
            due("end, wrong", x.end(wrong), NONE);
        }
        due("feed behind seven", x.feed(1, 2, 3, 4, 5), 27);
        x.end(0);
        due("end(1) of none", x.end(1), NONE);
        // What was behind the end is on the tape no more.
        x.relation(0, 0);
        Tape.put(x, "least 12");
        x.end(7);
        due("guess", x.guess(), NONE);
        due("fault(1)", x.fault(1), 7);
        Tape.put(x, "tree rr");
        x.end(6);
        due("guess", x.guess(), 1);
        Tape.put(x, "tree r tree");
        x.end(6);
        due("guess", x.guess(), 1);
    }

    private static void story() {
        VillageStories x = new VillageStories();
        x.relation(0, NONE);
        for (int story = 0; story < 7; story++) {
            due("story", Tape.story(x, "all x man r x"), story);
            due("the tape is taken", x.end(1), NONE);
            due("no fault", x.fault(0), 0);
        }
        due("story with a fault", Tape.story(x, "all x man s x"), NONE);
        due("the tape is taken too", x.end(1), NONE);
        due("fault", x.fault(0), 1);
        due("place", x.fault(1), 10);
        due("none came", x.many(4), 7);
        due("the eighth", Tape.story(x, "\n some x man r x \n"), 7);
        due("struck ones count", x.strike(3), true);
        Tape.story(x, "all x man s x");
        due("a ninth", Tape.story(x, "all x man r x"), -2);
        due("the tape is taken", x.end(1), NONE);
        due("a ninth, not even read", Tape.story(x, "all x man s x"), -2);
        due("fault", x.fault(0), 0);
        due("place", x.fault(1), NONE);
        due("eight in all", x.many(4), 8);
        due("strike(8)", x.strike(8), false);
        due("so(8)", x.so(8), NONE);
        due("breaks(8, 0)", x.breaks(8, 0), NONE);
        due("without(8)", x.without(8), NONE);
        Tape.guess(x, "al");
        due("fault of a guess", x.fault(0), 1);
        due("a ninth", x.story(), -2);
        due("fault", x.fault(0), 0);
        due("a guess may still come", Tape.guess(x, "all x man r x"), 2);
    }

    private static void guess() {
        VillageStories x = new VillageStories();
        x.relation(0, 1);
        due("guess", Tape.guess(x, "all x man some y house r x y"), 3);
        due("the tape is taken", x.end(1), NONE);
        due("many(9)", x.many(9), 3);
        due("so", x.so(NONE), 0);
        due("guess with a fault", Tape.guess(x, "all x man r x x"), NONE);
        due("the tape is taken", x.end(1), NONE);
        due("fault", x.fault(0), 3);
        due("place", x.fault(1), 14);
        due("the guess stays", x.many(9), 3);
        due("so", x.so(NONE), 0);
        due("the latest", Tape.guess(x, "all x man all y house not r x y"), 4);
        due("fault", x.fault(0), 0);
        due("place", x.fault(1), NONE);
        due("so", x.so(NONE), 1);
        due("holds", x.holds(0), 1);
        due("another one", Tape.guess(x, "some x man some y house r x y"), 3);
        due("holds", x.holds(0), 15);
        due("no story came", x.many(4), 0);
    }

    private static void dueFault(VillageStories x, String text, int fault, int place) {
        int answer = Tape.guess(x, text);
        due("guess '" + text + "'", answer == NONE ? 1 : 0, fault == 0 ? 0 : 1);
        due("fault(0) of '" + text + "'", x.fault(0), fault);
        due("fault(1) of '" + text + "'", x.fault(1), place);
    }

    /** r is of men and men, s of men and houses, t of houses; there is no u. */
    private static VillageStories threeRelations() {
        VillageStories x = new VillageStories();
        x.relation(0, 0);
        x.relation(0, 1);
        x.relation(1, NONE);
        return x;
    }

    private static void fault() {
        VillageStories x = threeRelations();
        due("fault(2)", x.fault(2), NONE);
        due("fault(-1)", x.fault(-1), NONE);
        for (int wrong : WRONG) {
            due("fault, wrong", x.fault(wrong), NONE);
        }
        faultOne(x);
        faultTwo(x);
        faultThree(x);
        dueFault(x, "all x man all y man all z man all w man r x w", 0, NONE);
        dueFault(x, "all x man all y man all z man all w man some x man r x x", 5, 40);
        dueFault(x, "all x man not all y man not all z man not all w man not most 2 x man r x x", 5, 56);
        dueFault(x, "all x man all y man all z man and all w man r x x all w man r x x", 0, NONE);
        dueFault(x, "all x man all y man all z man all w man and least 1 x man r x x all x man t x", 5, 44);
        dueFault(x, "all x man all y man all z man all w man and t y some x man r x x", 3, 46);
        dueFault(x, "all x man all y man all z man all w man some x man", 1, 50);
    }

    private static void faultOne(VillageStories x) {
        dueFault(x, "", 1, 0);
        dueFault(x, "   ", 1, 3);
        dueFault(x, "all", 1, 3);
        dueFault(x, "all x", 1, 5);
        dueFault(x, "all x man", 1, 9);
        dueFault(x, "all x man \n", 1, 11);
        dueFault(x, "all x dog r x x", 1, 6);
        dueFault(x, "all x mann r x x", 1, 6);
        dueFault(x, "all v man r v v", 1, 4);
        dueFault(x, "all xx man r x x", 1, 4);
        dueFault(x, "all x man r x", 1, 13);
        dueFault(x, "all x man r x x x", 1, 16);
        dueFault(x, "all x house t x tree r", 1, 16);
        dueFault(x, "all x man u x x", 1, 10);
        dueFault(x, "tree u", 1, 5);
        dueFault(x, "ALL x man r x x", 1, 0);
        dueFault(x, "all x man r x x#", 1, 15);
        dueFault(x, "all\tx man r x x", 1, 3);
        dueFault(x, "al#", 1, 0);
        dueFault(x, "all#", 1, 3);
        dueFault(x, "least x man r x x", 1, 6);
        dueFault(x, "least 12345 x man r x x", 1, 10);
        dueFault(x, "least 1234 x man r x x", 0, NONE);
        dueFault(x, "least2x man r x x", 0, NONE);
        dueFault(x, "most\n0000\nx\nman\nr\nx\nx\n", 0, NONE);
        dueFault(x, "all 2 x man r x x", 1, 4);
        dueFault(x, "man", 1, 0);
        dueFault(x, " x", 1, 1);
        dueFault(x, "5", 1, 0);
        dueFault(x, "tree", 1, 4);
        dueFault(x, "tree x", 1, 5);
        dueFault(x, "reach r", 1, 7);
        dueFault(x, "and tree r", 1, 10);
        dueFault(x, "or tree r tree r tree r", 1, 17);
        // Fault 1 goes before all that come earlier on the tape.
        dueFault(x, "r x x x", 1, 6);
        dueFault(x, "tree s tree", 1, 7);
    }

    private static void faultTwo(VillageStories x) {
        dueFault(x, "r x x", 2, 2);
        dueFault(x, "all x man r x y", 2, 14);
        dueFault(x, "all x man r y x", 2, 12);
        dueFault(x, "same x y", 2, 5);
        dueFault(x, "all x man same x y", 2, 17);
        dueFault(x, "all x man same y x", 2, 15);
        dueFault(x, "reach r x y", 2, 8);
        dueFault(x, "t z", 2, 2);
        dueFault(x, "and all x man tree r t x", 2, 23);
        dueFault(x, "all x man and r x y tree s", 2, 18);
        dueFault(x, "all x man and tree s r x y", 3, 19);
    }

    private static void faultThree(VillageStories x) {
        dueFault(x, "all x house r x x", 3, 14);
        dueFault(x, "all x man s x x", 3, 14);
        dueFault(x, "all x house s x x", 3, 14);
        dueFault(x, "all x man t x", 3, 12);
        dueFault(x, "all x day t x", 3, 12);
        dueFault(x, "all x man all y house same x y", 3, 29);
        dueFault(x, "all x man all y house same y x", 3, 29);
        dueFault(x, "all x house same x x", 0, NONE);
        dueFault(x, "tree s", 3, 5);
        dueFault(x, "tree t", 3, 5);
        dueFault(x, "tree r", 0, NONE);
        dueFault(x, "reach s x y", 3, 6);
        dueFault(x, "all x house reach t x x", 3, 18);
        dueFault(x, "all x man all y house reach r x y", 3, 32);
        dueFault(x, "all x man all y house reach r y x", 3, 30);
        // The nearest PART that binds a VAR is the one that counts.
        dueFault(x, "all x man all x house t x", 0, NONE);
        dueFault(x, "all x man all x house r x x", 3, 24);
        dueFault(x, "all x man and all x house t x r x x", 0, NONE);
    }

    private static String times(String word, int count) {
        return word.repeat(count);
    }

    private static void faultOfManyParts() {
        VillageStories x = threeRelations();
        due("40 parts", Tape.guess(x, times("not ", 39) + "tree r"), 40);
        due("so", x.so(NONE), 0);
        dueFault(x, times("not ", 40) + "tree r", 4, 160);
        dueFault(x, times("not ", 41) + "tree r", 4, 160);
        dueFault(x, times("not ", 98) + "tree r", 4, 160);
        dueFault(x, times("not ", 100), 1, 400);
        dueFault(x, times("or ", 133), 1, 399);
        dueFault(x, times("or ", 133) + "r", 1, 400);
        dueFault(x, times("and ", 19) + times("tree r ", 20), 0, NONE);
        due("39 parts", Tape.guess(x, times("and ", 19) + times("tree r ", 20)), 39);
        dueFault(x, times("and ", 20) + times("tree r ", 21), 4, 20 * 4 + 20 * 7);
        dueFault(x, "and tree s " + times("not ", 40) + "tree r", 3, 9);
        dueFault(x, times("not ", 40) + "tree s", 4, 160);
        // The 41st part is at the place of an all within four others, too: the least fault counts.
        String four = "all x man all y man all z man all w man ";
        dueFault(x, four + times("not ", 36) + "all x man tree r", 4, 40 + 144);
        dueFault(x, four + times("not ", 35) + "all x man tree r", 5, 40 + 140);
        dueFault(x, four + times("not ", 36) + "r x x", 4, 40 + 144);
        dueFault(x, four + times("not ", 35) + "r x x", 0, NONE);
    }

    private static void strike() {
        VillageStories x = new VillageStories();
        x.relation(0, NONE);
        due("strike(0) of none", x.strike(0), false);
        Tape.story(x, "all x man r x");
        Tape.story(x, "some x man r x");
        due("worlds", x.worlds(), 1);
        due("strike(2)", x.strike(2), false);
        due("strike(-1)", x.strike(-1), false);
        for (int wrong : WRONG) {
            due("strike, wrong", x.strike(wrong), false);
        }
        due("strike(0)", x.strike(0), true);
        due("strike(0) anew", x.strike(0), false);
        due("worlds", x.worlds(), 3);
        due("many(7)", x.many(7), 2);
        due("many(4)", x.many(4), 2);
        x.day(5);
        due("strike(1)", x.strike(1), true);
        due("many(7)", x.many(7), 0);
        x.view(4);
        due("many(7) by the fourth day", x.many(7), 2);
        due("strike(1): it is now", x.strike(1), false);
        due("the next story", Tape.story(x, "all x man r x"), 2);
        due("strike what isn't in the view", x.strike(2), true);
    }

    private static void dayAndView() {
        VillageStories x = new VillageStories();
        x.relation(0, 1);
        due("day(0) as it is", x.day(0), true);
        due("view(0)", x.view(0), true);
        due("many(6)", x.many(6), 0);
        due("view(1) later than now", x.view(1), false);
        due("view(NONE)", x.view(NONE), true);
        due("many(6)", x.many(6), NONE);
        due("view(-2)", x.view(-2), false);
        Tape.story(x, "all x man some y house r x y");
        x.known(0, 0, 0, true);
        due("day(3)", x.day(3), true);
        due("day(2) earlier", x.day(2), false);
        due("many(5)", x.many(5), 3);
        Tape.story(x, "all x man most 1 y house r x y");
        x.known(0, 0, 0, false);
        x.strike(0);
        due("day(4)", x.day(4), true);
        x.known(0, 0, 1, false);
        Tape.story(x, "all x man all y house r x y");
        int[] bits = {1, 1, 1, 2, 6};
        int[] worlds = {6, 6, 6, 6, 0};
        for (int day = 0; day <= 4; day++) {
            due("view", x.view(day), true);
            due("many(6)", x.many(6), day);
            due("many(7) on day " + day, x.many(7), bits[day]);
            due("worlds on day " + day, x.worlds(), worlds[day]);
        }
        due("view(5)", x.view(5), false);
        due("the view stays", x.many(6), 4);
        due("day(999)", x.day(999), true);
        due("day(1000)", x.day(1000), false);
        due("the view stays", x.many(6), 4);
        due("view(998)", x.view(998), true);
        due("view(999)", x.view(999), true);
        due("view(1000)", x.view(1000), false);
        for (int wrong : new int[] {Integer.MIN_VALUE, -1, 1000, Integer.MAX_VALUE}) {
            due("day, wrong", x.day(wrong), false);
            due("view, wrong", wrong != NONE && x.view(wrong), false);
        }
        due("many(5)", x.many(5), 999);
        viewOfNow();
    }

    private static void viewOfNow() {
        VillageStories x = new VillageStories();
        x.relation(0, NONE);
        x.view(0);
        Tape.story(x, "some x man r x");
        due("told on the day of the view", x.many(7), 1);
        x.day(1);
        Tape.story(x, "all x man r x");
        due("the view is a day", x.many(7), 1);
        due("worlds", x.worlds(), 3);
        x.known(0, 0, 0, true);
        due("known later", x.worlds(), 3);
        x.view(NONE);
        due("the view is now", x.many(7), 3);
        x.day(2);
        Tape.story(x, "all x man r x");
        due("now goes on", x.many(7), 7);
        due("a guess has no day", Tape.guess(x, "all x man r x"), 2);
        x.view(0);
        due("holds on day 0", x.holds(0), 1);
        due("so of a story that is told later", x.so(2), 0);
    }

    private static void dueSo(VillageStories x, String text, int want) {
        Tape.guess(x, text);
        due("fault of '" + text + "'", x.fault(0), 0);
        due("so '" + text + "'", x.so(NONE), want);
    }

    private static void so() {
        VillageStories x = threeRelations();
        x.size(0, 3);
        due("so without guess", x.so(NONE), NONE);
        x.tell(0, 0, 1, true);
        x.tell(0, 1, 2, true);
        x.tell(1, 0, 0, true);
        x.tell(1, 1, 0, true);
        x.tell(1, 2, 1, true);
        x.tell(2, 0, 0, true);
        dueSo(x, "all x man some y house s x y", 1);
        dueSo(x, "all x man most 1 y house s x y", 1);
        dueSo(x, "some y house all x man s x y", 0);
        dueSo(x, "all x house t x", 0);
        dueSo(x, "some x house t x", 1);
        dueSo(x, "all x day same x x", 1);
        dueSo(x, "least 2 x man some y man r x y", 1);
        dueSo(x, "least 3 x man some y man r x y", 0);
        dueSo(x, "most 1 x man some y man r x y", 0);
        dueSo(x, "most 2 x man some y man r x y", 1);
        dueSo(x, "most 3 x man same x x", 1);
        dueSo(x, "least 3 x man same x x", 1);
        dueSo(x, "least 4 x man same x x", 0);
        dueSo(x, "least 3 x house same x x", 0);
        dueSo(x, "least 0 x man r x x", 1);
        dueSo(x, "most 0 x man r x x", 1);
        dueSo(x, "most 0 x man r x x", 1);
        dueSo(x, "most 0 x house t x", 0);
        dueSo(x, "least 1 x house t x", 1);
        dueSo(x, "least 9999 x man same x x", 0);
        dueSo(x, "most 9999 x man same x x", 1);
        dueSo(x, "some x man all y man or same x y reach r y x", 1);
        dueSo(x, "some x man all y man or same x y r y x", 0);
        dueSo(x, "some x man reach r x x", 0);
        dueSo(x, "all x man all y man if and reach r x y reach r y x same x y", 1);
        dueSo(x, "if tree r some x house not t x", 1);
        dueSo(x, "if tree r all x house t x", 0);
        dueSo(x, "if not tree r all x house t x", 1);
        dueSo(x, "and tree r all x house t x", 0);
        dueSo(x, "and all x house t x tree r", 0);
        dueSo(x, "or tree r all x house t x", 1);
        dueSo(x, "or all x house t x tree r", 1);
        dueSo(x, "or all x house t x not tree r", 0);
        dueSo(x, "all x man some x house t x", 1);
        dueSo(x, "all x man all y man if same x y same y x", 1);
        dueSo(x, "all x man and some x house t x some y man or r x y r y x", 1);
        soOfReachAndTree(x);
        soOfStories();
    }

    private static void soOfReachAndTree(VillageStories x) {
        dueSo(x, "tree r", 1);
        x.tell(0, 0, 2, true);
        dueSo(x, "tree r", 0);
        dueSo(x, "some x man reach r x x", 0);
        x.tell(0, 0, 2, false);
        x.tell(0, 2, 0, true);
        dueSo(x, "tree r", 0);
        dueSo(x, "all x man all y man reach r x y", 1);
        x.tell(0, 2, 0, false);
        x.tell(0, 2, 2, true);
        dueSo(x, "tree r", 0);
        dueSo(x, "most 1 x man reach r x x", 1);
        dueSo(x, "some x man reach r x x", 1);
        x.tell(0, 2, 2, false);
        // Two that go to one are no fault of a tree.
        x.tell(0, 0, 1, false);
        x.tell(0, 0, 2, true);
        dueSo(x, "tree r", 1);
        dueSo(x, "some x man least 2 y man reach r y x", 1);
    }

    private static void soOfStories() {
        VillageStories x = new VillageStories();
        x.relation(0, NONE);
        due("so(0) of none", x.so(0), NONE);
        Tape.story(x, "some x man r x");
        x.day(1);
        Tape.story(x, "all x man not r x");
        due("so(0)", x.so(0), 0);
        due("so(1)", x.so(1), 1);
        x.tell(0, 1, 0, true);
        due("so(0)", x.so(0), 1);
        due("so(1)", x.so(1), 0);
        x.strike(0);
        due("so of a struck one", x.so(0), 1);
        x.view(0);
        due("so of one that is told later", x.so(1), 0);
        due("so(2)", x.so(2), NONE);
        due("so(-2)", x.so(-2), NONE);
        for (int wrong : WRONG) {
            due("so, wrong", x.so(wrong), NONE);
        }
    }

    private static void breaks() {
        VillageStories x = new VillageStories();
        x.size(0, 3);
        x.relation(0, 0);
        due("breaks(0, 0) of none", x.breaks(0, 0), NONE);
        Tape.story(x, "all x man all y man if r x y r y x");
        Tape.story(x, "some x man all y man r x y");
        Tape.story(x, "all x man some y man r y x");
        Tape.story(x, "all x man all x man not r x x");
        Tape.story(x, "not all x man not r x x");
        due("it is so", x.breaks(0, 0), NONE);
        due("no all to begin with", x.breaks(1, 0), NONE);
        due("first man", x.breaks(2, 0), 0);
        due("only one all", x.breaks(2, 1), NONE);
        x.tell(0, 1, 2, true);
        due("breaks(0, 0)", x.breaks(0, 0), 1);
        due("breaks(0, 1)", x.breaks(0, 1), 2);
        due("breaks(0, 2)", x.breaks(0, 2), NONE);
        due("breaks(0, -1)", x.breaks(0, -1), NONE);
        x.tell(0, 2, 0, true);
        x.tell(0, 2, 1, true);
        due("breaks(0, 0)", x.breaks(0, 0), 2);
        due("breaks(0, 1)", x.breaks(0, 1), 0);
        x.tell(0, 1, 0, true);
        x.tell(0, 2, 2, true);
        due("breaks(0, 0)", x.breaks(0, 0), 1);
        due("breaks(0, 1)", x.breaks(0, 1), 0);
        due("it is so", x.breaks(2, 0), NONE);
        due("the outer one of both x", x.breaks(3, 0), 0);
        due("the inner one of both x", x.breaks(3, 1), 2);
        x.tell(0, 2, 2, false);
        due("begins with not", x.so(4), 0);
        due("begins with not", x.breaks(4, 0), NONE);
        x.strike(0);
        due("of a struck one", x.breaks(0, 1), 0);
        for (int wrong : WRONG) {
            due("breaks, wrong story", x.breaks(wrong, 0), NONE);
            due("breaks, wrong k", x.breaks(0, wrong), NONE);
        }
        due("breaks(5, 0)", x.breaks(5, 0), NONE);
        due("breaks(NONE, 0)", x.breaks(NONE, 0), NONE);
        breaksOfFour();
    }

    private static void breaksOfFour() {
        VillageStories x = new VillageStories();
        x.size(2, 3);
        x.relation(0, 1);
        x.relation(1, 2);
        Tape.story(x, "all x man all y house all z day all w man if and r x y s y z r w y");
        Tape.guess(x, "all x man not same x x");
        x.tell(0, 1, 1, true);
        x.tell(1, 1, 2, true);
        int[] row = {1, 1, 2, 0, NONE};
        for (int k = 0; k < row.length; k++) {
            due("breaks(0, " + k + ")", x.breaks(0, k), row[k]);
        }
        due("not of the guess", x.breaks(NONE, 0), NONE);
    }

    private static VillageStories oneHouseEach() {
        VillageStories x = new VillageStories();
        x.relation(0, 1);
        Tape.story(x, ONE_HOUSE_EACH);
        return x;
    }

    private static void worlds() {
        VillageStories x = new VillageStories();
        x.relation(0, 1);
        due("worlds", x.worlds(), 16);
        Tape.story(x, "all x man some y house r x y");
        due("worlds", x.worlds(), 9);
        Tape.story(x, "all x man most 1 y house r x y");
        due("worlds", x.worlds(), 4);
        x.known(0, 0, 0, true);
        due("worlds", x.worlds(), 2);
        x.known(0, 0, 1, true);
        due("worlds", x.worlds(), 0);
        x.known(0, 0, 1, false);
        x.size(0, 3);
        due("worlds", x.worlds(), 4);
        x.size(1, 3);
        due("worlds", x.worlds(), 9);
        x.tell(0, 0, 0, true);
        due("the world at hand counts for nothing", x.worlds(), 9);
        VillageStories y = new VillageStories();
        y.size(0, 3);
        y.relation(0, 0);
        due("worlds", y.worlds(), 512);
        Tape.story(y, "tree r");
        due("forests of three, by names", y.worlds(), 16);
        y.relation(1, NONE);
        due("worlds", y.worlds(), 64);
        y.size(1, 3);
        due("worlds of twelve facts", y.worlds(), 128);
    }

    private static void forms() {
        VillageStories x = oneHouseEach();
        due("forms", x.forms(), 2);
        x.size(0, 3);
        due("forms", x.forms(), 2);
        x.size(1, 3);
        due("forms", x.forms(), 3);
        x.size(0, 1);
        due("forms", x.forms(), 1);
        VillageStories y = new VillageStories();
        y.size(0, 3);
        y.relation(0, 0);
        due("digraphs of three, loops too", y.forms(), 104);
        Tape.story(y, "tree r");
        due("forests of three", y.forms(), 4);
        y.relation(1, NONE);
        due("and houses", y.forms(), 12);
        y.size(1, 1);
        y.relation(1, NONE);
        due("and a house of two ways", y.forms(), 16);
        // What is known may leave worlds of which none has the least row.
        VillageStories z = oneHouseEach();
        z.known(0, 0, 0, true);
        due("worlds", z.worlds(), 2);
        due("forms", z.forms(), 0);
        due("form", z.form(0), false);
        z.known(0, 0, 0, false);
        due("worlds", z.worlds(), 2);
        due("forms", z.forms(), 2);
    }

    private static void form() {
        VillageStories x = oneHouseEach();
        due("form(0)", x.form(0), true);
        dueWorld("form(0)", x, "0101");
        due("form(0) as it is", x.form(0), true);
        due("form(1)", x.form(1), true);
        dueWorld("form(1)", x, "0110");
        due("form(2)", x.form(2), false);
        due("form(-1)", x.form(-1), false);
        for (int wrong : WRONG) {
            due("form, wrong", x.form(wrong), false);
        }
        dueWorld("form, wrong", x, "0110");
        VillageStories y = new VillageStories();
        y.relation(0, 0);
        String[] rows = {"0000", "0001", "0010", "0011", "0101", "0110", "0111", "1001", "1011", "1111"};
        due("digraphs of two", y.forms(), rows.length);
        for (int k = 0; k < rows.length; k++) {
            due("form", y.form(k), true);
            dueWorld("form(" + k + ")", y, rows[k]);
        }
    }

    private static void name() {
        VillageStories x = new VillageStories();
        x.relation(0, 1);
        tellWorld(x, "1010");
        due("name", x.name(), true);
        dueWorld("name", x, "0101");
        due("name anew", x.name(), false);
        tellWorld(x, "1001");
        due("name", x.name(), true);
        dueWorld("name", x, "0110");
        Tape.story(x, "all x man all y house not r x y");
        tellWorld(x, "1000");
        due("whatever the stories are", x.name(), true);
        dueWorld("name", x, "0001");
        VillageStories y = new VillageStories();
        y.size(2, 3);
        y.relation(2, NONE);
        y.relation(2, 2);
        y.tell(0, 0, 0, true);
        y.tell(1, 1, 0, true);
        due("name of days", y.name(), true);
        dueWorld("name of days", y, "001000001000");
    }

    private static void least() {
        VillageStories x = new VillageStories();
        x.relation(0, NONE);
        Tape.story(x, "least 2 x man r x");
        Tape.story(x, "some x man not r x");
        due("three men", x.least(0), 3);
        due("one house", x.least(1), 1);
        due("one day", x.least(2), 1);
        due("least(3)", x.least(3), NONE);
        due("least(-1)", x.least(-1), NONE);
        for (int wrong : WRONG) {
            due("least, wrong", x.least(wrong), NONE);
        }
        x.known(0, 0, 0, false);
        x.known(0, 1, 0, false);
        due("whatever is known", x.least(0), 3);
        due("the sizes stay", x.many(0), 2);
        x.strike(1);
        due("two men", x.least(0), 2);
        x.day(1);
        Tape.story(x, "most 1 x man r x");
        for (int kind = 0; kind < 3; kind++) {
            due("none such", x.least(kind), NONE);
        }
        x.view(0);
        due("by the view", x.least(0), 2);
        leastOfSeveral();
        leastAndFacts();
    }

    private static void leastOfSeveral() {
        VillageStories x = new VillageStories();
        String men = "some x man some y man not same x y ";
        String houses = "some x house some y house not same x y ";
        String days = "some x day some y day not same x y ";
        Tape.story(x, "or " + men + "or " + houses + days);
        int[] row = {1, 1, 2};
        for (int kind = 0; kind < 3; kind++) {
            due("the least row", x.least(kind), row[kind]);
        }
        Tape.story(x, "or " + men + houses);
        row = new int[] {1, 2, 1};
        for (int kind = 0; kind < 3; kind++) {
            due("the least row", x.least(kind), row[kind]);
        }
        Tape.story(x, "or and " + men + days + " least 3 x house same x x");
        row = new int[] {1, 3, 1};
        for (int kind = 0; kind < 3; kind++) {
            due("the least row of the fewest together", x.least(kind), row[kind]);
        }
        Tape.story(x, "and least 3 x man same x x least 3 x house same x x");
        Tape.story(x, "least 3 x day same x x");
        for (int kind = 0; kind < 3; kind++) {
            due("three of each", x.least(kind), 3);
        }
        for (int story = 0; story < 5; story++) {
            x.strike(story);
        }
        x.size(1, 3);
        due("no story is left", x.least(0), 1);
    }

    private static void leastAndFacts() {
        VillageStories x = new VillageStories();
        x.relation(0, 0);
        x.relation(0, NONE);
        Tape.story(x, "least 3 x man same x x");
        due("twelve facts", x.least(0), 3);
        x.size(0, 3);
        x.size(1, 3);
        due("twelve facts", x.facts(), 12);
        x.relation(1, NONE);
        due("fifteen facts", x.facts(), 15);
        due("worlds", x.worlds(), NONE);
        due("no sizes of three men have as few", x.least(0), NONE);
        x.strike(0);
        due("but of one man", x.least(0), 1);
    }

    private static VillageStories contradiction() {
        VillageStories x = new VillageStories();
        x.relation(0, NONE);
        Tape.story(x, "some x man r x");
        Tape.story(x, "all x man not r x");
        Tape.story(x, "least 2 x man r x");
        Tape.story(x, "all x man r x");
        return x;
    }

    private static void dueCore(VillageStories x, int... want) {
        for (int k = 0; k < want.length; k++) {
            due("core(" + k + ")", x.core(k), want[k]);
        }
        due("core, behind the last", x.core(want.length), NONE);
        due("core(-1)", x.core(-1), NONE);
    }

    private static void core() {
        VillageStories x = contradiction();
        dueCore(x, 0, 1);
        x.strike(0);
        dueCore(x, 1, 2);
        x.known(0, 1, 0, false);
        dueCore(x, 2);
        x.strike(1);
        dueCore(x, 2);
        x.strike(2);
        dueCore(x, 3);
        x.strike(3);
        due("worlds", x.worlds(), 2);
        dueCore(x);
        for (int wrong : WRONG) {
            due("core, wrong", x.core(wrong), NONE);
        }
        dueCore(oneHouseEach());
        VillageStories y = new VillageStories();
        y.relation(0, NONE);
        dueCore(y);
        Tape.story(y, "or all x man r x all x house same x x");
        Tape.story(y, "most 1 x man r x");
        Tape.story(y, "some x man r x");
        Tape.story(y, "all x man all y man if r x r y");
        Tape.story(y, "least 1 x man r x");
        dueCore(y, 1, 2, 3);
        y.day(1);
        y.strike(2);
        dueCore(y, 1, 3, 4);
        y.view(0);
        dueCore(y, 1, 2, 3);
        // A core of one that comes late goes before a core of two that come early.
        VillageStories z = contradiction();
        Tape.story(z, "all x man not same x x");
        dueCore(z, 4);
        z.size(0, 3);
        z.relation(0, 0);
        dueCore(z, 4);
        z.relation(0, NONE);
        due("fifteen facts", z.facts(), 15);
        dueCore(z);
    }

    private static void dueCause(VillageStories x, int relation, int i, int j, int... want) {
        for (int k = 0; k < want.length; k++) {
            due("cause(.., " + k + ")", x.cause(relation, i, j, k), want[k]);
        }
        due("cause, behind the last", x.cause(relation, i, j, want.length), NONE);
        due("cause(.., -1)", x.cause(relation, i, j, -1), NONE);
    }

    private static void sureAndCause() {
        VillageStories x = new VillageStories();
        x.relation(0, NONE);
        due("sure of nothing", x.sure(0, 0, 0), NONE);
        dueCause(x, 0, 0, 0);
        Tape.story(x, "some x man r x");
        due("sure in some", x.sure(0, 0, 0), NONE);
        dueCause(x, 0, 0, 0);
        Tape.story(x, "all x man r x");
        due("sure", x.sure(0, 0, 0), 1);
        due("j counts for nothing", x.sure(0, 1, 50), 1);
        dueCause(x, 0, 1, -50, 1);
        x.strike(1);
        x.known(0, 0, 0, false);
        due("known: not so", x.sure(0, 0, 0), 0);
        dueCause(x, 0, 0, 0);
        due("so it is the other one", x.sure(0, 1, 0), 1);
        dueCause(x, 0, 1, 0, 0);
        due("none such", x.sure(0, 2, 0), NONE);
        due("none such", x.sure(1, 0, 0), NONE);
        due("none such", x.sure(0, -1, 0), NONE);
        dueCause(x, 0, 2, 0);
        for (int wrong : WRONG) {
            due("sure, wrong", x.sure(wrong, 0, 0), NONE);
            due("sure, wrong", x.sure(0, wrong, 0), NONE);
            due("cause, wrong", x.cause(wrong, 0, 0, 0), NONE);
            due("cause, wrong", x.cause(0, wrong, 0, 0), NONE);
            due("cause, wrong", x.cause(0, 1, 0, wrong), NONE);
        }
        x.known(0, 1, 0, false);
        due("no worlds", x.worlds(), 0);
        due("sure of no worlds", x.sure(0, 0, 0), NONE);
        dueCause(x, 0, 0, 0);
        causeOfSeveral();
    }

    private static void causeOfSeveral() {
        VillageStories x = new VillageStories();
        x.relation(0, NONE);
        x.relation(1, 0);
        Tape.story(x, "if some y house some z man s y z all x man not r x");
        Tape.story(x, "all y house some z man s y z");
        Tape.story(x, "if some y house some z man s y z all x man not r x");
        Tape.story(x, "some y house some z man s y z");
        due("sure", x.sure(0, 1, 0), 0);
        dueCause(x, 0, 1, 0, 0, 1);
        x.strike(0);
        dueCause(x, 0, 1, 0, 1, 2);
        x.strike(1);
        dueCause(x, 0, 1, 0, 2, 3);
        x.known(1, 0, 1, true);
        dueCause(x, 0, 1, 0, 2);
        Tape.story(x, "all x man not r x");
        dueCause(x, 0, 1, 0, 2);
        due("sure of a fact of two", x.sure(1, 0, 1), 1);
        due("sure of none such", x.sure(1, 0, 2), NONE);
        due("not sure", x.sure(1, 1, 1), NONE);
        due("not sure", x.cause(1, 1, 1, 0), NONE);
    }

    private static void without() {
        VillageStories x = new VillageStories();
        x.relation(0, 1);
        due("without(0) of none", x.without(0), NONE);
        Tape.story(x, "all x man some y house r x y");
        Tape.story(x, "all x man most 1 y house r x y");
        due("without(0)", x.without(0), 9);
        due("without(1)", x.without(1), 9);
        due("without(2)", x.without(2), NONE);
        due("without(NONE)", x.without(NONE), NONE);
        for (int wrong : WRONG) {
            due("without, wrong", x.without(wrong), NONE);
        }
        x.known(0, 0, 0, true);
        due("without(1)", x.without(1), 6);
        due("worlds stay", x.worlds(), 2);
        x.day(2);
        x.strike(0);
        due("without a struck one", x.without(0), NONE);
        due("without(1)", x.without(1), 8);
        Tape.story(x, "all x man all y house r x y");
        due("without(2)", x.without(2), 3);
        x.view(1);
        due("by the view", x.without(0), 3);
        due("not by the view", x.without(2), NONE);
    }

    private static void questions() {
        VillageStories x = new VillageStories();
        x.relation(0, 1);
        due("sixteen worlds", x.questions(), 4);
        Tape.story(x, "some x man some y house r x y");
        due("fifteen worlds", x.questions(), 4);
        x.strike(0);
        x.known(0, 0, 0, true);
        due("eight worlds", x.questions(), 3);
        x.known(0, 1, 1, true);
        x.known(0, 1, 0, false);
        due("two worlds", x.questions(), 1);
        x.known(0, 0, 1, false);
        due("one world", x.questions(), 0);
        Tape.story(x, "all x man all y house r x y");
        due("no world", x.questions(), NONE);
        due("one house each", oneHouseEach().questions(), 2);
        VillageStories y = new VillageStories();
        y.relation(0, NONE);
        y.relation(1, NONE);
        y.relation(2, NONE);
        due("64 worlds", y.questions(), NONE);
        // Of n worlds with one fact each a question can leave n - 1.
        String lone = "some x man and r x all y man if r y same x y";
        int[] questions = {NONE, 0, 1, 2};
        for (int size = 1; size <= 3; size++) {
            VillageStories z = new VillageStories();
            z.size(0, size);
            z.relation(0, NONE);
            Tape.story(z, lone);
            due("one of " + size, z.questions(), questions[size]);
        }
        int[][] pairs = {{1, 3, 2}, {2, 2, 3}, {2, 3, NONE}, {3, 3, NONE}};
        for (int[] pair : pairs) {
            VillageStories z = new VillageStories();
            z.size(0, pair[0]);
            z.size(1, pair[1]);
            z.relation(0, 1);
            Tape.story(z, "some x man some y house and r x y all z man all w house if r z w and same x z same y w");
            due("one of " + pair[0] * pair[1], z.questions(), pair[2]);
        }
        for (int[] pair : pairs) {
            VillageStories z = new VillageStories();
            z.size(0, pair[0]);
            z.size(1, pair[1]);
            z.relation(0, 1);
            Tape.story(z, "some x man some y house and not r x y all z man all w house "
                    + "if not r z w and same x z same y w");
            due("all but one of " + pair[0] * pair[1], z.questions(), pair[2]);
        }
        VillageStories five = new VillageStories();
        five.size(0, 3);
        five.relation(0, NONE);
        five.relation(1, NONE);
        Tape.story(five, "if some x man r x all y house not s y");
        Tape.story(five, "most 1 x man r x");
        Tape.story(five, "most 1 y house s y");
        Tape.story(five, "or some x man r x some y house s y");
        due("five worlds", five.worlds(), 5);
        due("one of five", five.questions(), 4);
        // Each way may want another second question.
        VillageStories w = new VillageStories();
        w.relation(0, NONE);
        w.relation(1, NONE);
        w.known(0, 1, 0, false);
        Tape.story(w, "and if some x man r x most 1 y house s y if not some x man r x most 1 y house not s y");
        due("six worlds", w.worlds(), 6);
        due("six worlds", w.questions(), 3);
    }

    private static void dueSettle(VillageStories x, int relation, int i, int j, int greater) {
        due("settle(0)", x.settle(0), relation);
        due("settle(1)", x.settle(1), i);
        due("settle(2)", x.settle(2), j);
        due("settle(3)", x.settle(3), greater);
        due("settle(4)", x.settle(4), NONE);
        due("settle(-1)", x.settle(-1), NONE);
    }

    private static void settle() {
        VillageStories x = oneHouseEach();
        dueSettle(x, 0, 0, 0, 2);
        x.known(0, 0, 0, true);
        dueSettle(x, 0, 1, 0, 1);
        x.known(0, 1, 0, false);
        dueSettle(x, 0, 0, 0, 1);
        x.known(0, 1, 1, false);
        dueSettle(x, NONE, NONE, NONE, NONE);
        for (int wrong : WRONG) {
            due("settle, wrong", oneHouseEach().settle(wrong), NONE);
        }
        VillageStories y = new VillageStories();
        y.relation(0, 1);
        y.relation(2, NONE);
        Tape.story(y, "all x man all y house r x y");
        dueSettle(y, 1, 0, NONE, 2);
        y.known(1, 0, 0, true);
        dueSettle(y, 1, 1, NONE, 1);
        // Where it is mostly so the greater number is that of those in which it is.
        VillageStories z = new VillageStories();
        z.size(0, 3);
        z.relation(0, NONE);
        Tape.story(z, "least 2 x man r x");
        dueSettle(z, 0, 0, NONE, 3);
        z.known(0, 0, 0, true);
        dueSettle(z, 0, 1, NONE, 2);
    }

    private static void near() {
        VillageStories x = oneHouseEach();
        due("near", x.near(), 2);
        dueWorld("near", x, "0101");
        due("near, as it is", x.near(), 0);
        tellWorld(x, "1000");
        due("near", x.near(), 1);
        dueWorld("near", x, "1001");
        tellWorld(x, "1111");
        due("near", x.near(), 2);
        dueWorld("near", x, "0101");
        tellWorld(x, "1110");
        due("near", x.near(), 1);
        dueWorld("near", x, "0110");
        tellWorld(x, "1110");
        x.known(0, 0, 1, false);
        due("near, as it is known", x.near(), 1);
        dueWorld("near, as it is known", x, "1010");
        VillageStories y = new VillageStories();
        y.size(0, 3);
        y.relation(0, 1);
        y.relation(0, 1);
        Tape.story(y, "all x man all y house and r x y s x y");
        due("near, but as far as can be", y.near(), 12);
        dueWorld("near, but as far as can be", y, "111111111111");
        Tape.story(x, "all x man all y house r x y");
        due("near to none", x.near(), NONE);
        dueWorld("near to none", x, "1010");
    }

    private static void holdsAndAgainst() {
        VillageStories x = oneHouseEach();
        due("holds without guess", x.holds(0), NONE);
        due("holds without guess", x.holds(1), NONE);
        due("against without guess", x.against(), false);
        Tape.guess(x, "some y house all x man r x y");
        due("holds(0)", x.holds(0), 2);
        due("holds(1)", x.holds(1), 1);
        due("holds(2)", x.holds(2), NONE);
        due("holds(-1)", x.holds(-1), NONE);
        for (int wrong : WRONG) {
            due("holds, wrong", x.holds(wrong), NONE);
        }
        due("worlds stay", x.worlds(), 4);
        due("against", x.against(), true);
        dueWorld("against", x, "0110");
        due("against, as it is", x.against(), true);
        Tape.guess(x, "not some y house all x man r x y");
        due("against", x.against(), true);
        dueWorld("against", x, "0101");
        Tape.guess(x, "all x man some y house r x y");
        due("holds(0)", x.holds(0), 4);
        due("holds(1)", x.holds(1), 2);
        due("against none", x.against(), false);
        dueWorld("against none", x, "0101");
        Tape.guess(x, "all x man all y house r x y");
        due("holds(0)", x.holds(0), 0);
        due("holds(1)", x.holds(1), 0);
        due("the first form of all", x.against(), true);
        dueWorld("the first form of all", x, "0101");
        Tape.story(x, "all x man all y house r x y");
        due("holds of no worlds", x.holds(0), 0);
        due("holds of no worlds", x.holds(1), 0);
        due("against of no worlds", x.against(), false);
        x.strike(1);
        x.size(0, 1);
        due("other sizes", x.holds(0), 0);
        due("other sizes", x.worlds(), 2);
        x.size(1, 1);
        due("other sizes", x.holds(1), 1);
    }

    private static void many() {
        VillageStories x = oneHouseEach();
        x.size(2, 3);
        x.relation(2, NONE);
        x.tell(0, 0, 0, true);
        x.tell(1, 2, 0, true);
        x.known(0, 0, 0, true);
        x.known(0, 0, 0, true);
        Tape.guess(x, "some x day s x");
        x.day(17);
        Tape.story(x, "some x day s x");
        Tape.story(x, "some x day s x");
        x.day(20);
        x.strike(1);
        x.view(19);
        int[] many = {2, 2, 3, 2, 3, 20, 19, 7, 2, 2, 2};
        for (int what = 0; what < many.length; what++) {
            due("many(" + what + ")", x.many(what), many[what]);
        }
        x.view(NONE);
        due("many(6)", x.many(6), NONE);
        due("many(7)", x.many(7), 5);
        for (int wrong : WRONG) {
            due("many, wrong", x.many(wrong), -2);
        }
        due("many(-1)", x.many(-1), -2);
        due("many(11)", x.many(11), -2);
    }

    private static void images() {
        VillageStories x = oneHouseEach();
        due("image(3)", x.image(3), false);
        due("image(-1)", x.image(-1), false);
        due("again(0)", x.again(0), false);
        due("again(3)", x.again(3), false);
        due("again(-1)", x.again(-1), false);
        for (int wrong : WRONG) {
            due("image, wrong", x.image(wrong), false);
            due("again, wrong", x.again(wrong), false);
        }
        x.day(4);
        x.view(2);
        x.known(0, 0, 0, true);
        x.tell(0, 1, 1, true);
        x.keep(1);
        x.tell(0, 1, 0, true);
        Tape.guess(x, "some y house all x man r x y");
        Tape.guess(x, "some y house all x man r x z");
        Tape.put(x, "tree r");
        due("image(2)", x.image(2), true);
        changeAll(x);
        due("image(0)", x.image(0), true);
        due("again(1)", x.again(1), false);
        due("again(2)", x.again(2), true);
        dueAsImaged(x);
        due("again(0)", x.again(0), true);
        due("many(4)", x.many(4), 4);
        due("many(0)", x.many(0), 3);
        due("worlds", x.worlds(), 1);
        due("again(2) anew", x.again(2), true);
        dueAsImaged(x);
        // An image is a copy: what is done after again() doesn't change it.
        changeAll(x);
        due("again(2) once more", x.again(2), true);
        dueAsImaged(x);
        due("again(2), for another image", x.again(2), true);
        due("image(0), of another state", x.image(0), true);
        changeAll(x);
        due("again(0)", x.again(0), true);
        dueAsImaged(x);
        otherStoriesOfOneNumber();
    }

    private static void otherStoriesOfOneNumber() {
        VillageStories x = new VillageStories();
        x.relation(0, NONE);
        x.image(0);
        Tape.story(x, "all x man r x");
        Tape.guess(x, "all x man r x");
        due("worlds", x.worlds(), 1);
        due("holds", x.holds(0), 1);
        due("least", x.least(0), 1);
        x.image(1);
        x.again(0);
        due("no story", x.worlds(), 4);
        due("no guess", x.holds(0), NONE);
        Tape.story(x, "least 2 x man not same x x");
        Tape.guess(x, "not all x man r x");
        due("another first story", x.worlds(), 0);
        due("another first story", x.least(0), NONE);
        x.strike(0);
        due("another guess", x.holds(0), 3);
        x.again(1);
        due("the first one again", x.worlds(), 1);
        due("the first guess again", x.holds(0), 1);
        due("the first one again", x.least(0), 1);
    }

    private static void changeAll(VillageStories x) {
        x.story();
        x.day(9);
        x.view(NONE);
        x.strike(0);
        Tape.story(x, "all x man all y house r x y");
        Tape.guess(x, "tree r tree r");
        Tape.guess(x, "all x man same x x");
        x.size(0, 3);
        x.size(1, 1);
        x.relation(2, 2);
        x.known(0, 1, 0, true);
        x.tell(0, 2, 0, true);
        x.keep(0);
        Tape.story(x, "tree s");
        Tape.story(x, "all z day all w day not s z w");
    }

    private static void dueAsImaged(VillageStories x) {
        int[] many = {2, 2, 2, 1, 1, 4, 2, 1, 2, 3, 1};
        for (int what = 0; what < many.length; what++) {
            due("again: many(" + what + ")", x.many(what), many[what]);
        }
        dueWorld("again", x, "0011");
        due("again: the kept one", x.apart(1), 1);
        due("again: none is kept", x.apart(0), NONE);
        due("again: fault(0)", x.fault(0), 2);
        due("again: fault(1)", x.fault(1), 27);
        due("again: the tape", x.end(6), 6);
        due("again: the tape", x.end(7), NONE);
        due("again: so of the guess", x.so(NONE), 0);
        due("again: so", x.so(0), 0);
        due("again: no second story", x.so(1), NONE);
        due("again: worlds", x.worlds(), 4);
        due("again: forms", x.forms(), 2);
        due("again: holds", x.holds(0), 2);
        due("again: least", x.least(0), 1);
        x.view(NONE);
        due("again: known", x.worlds(), 2);
        x.view(2);
        due("again: the tape's text", x.story(), NONE);
        due("again: its fault", x.fault(0), 3);
        due("again: its place", x.fault(1), 5);
    }

    /** Of more than twelve facts what is asked of worlds can't be told, but the rest can. */
    private static void cannotBeTold() {
        VillageStories x = new VillageStories();
        x.relation(0, 1);
        x.relation(0, 1);
        x.relation(1, 1);
        due("twelve facts", x.worlds(), 4096);
        due("twelve facts", x.forms() > 0, true);
        x.size(2, 3);
        x.relation(2, NONE);
        Tape.story(x, "all x man all y man same x y");
        Tape.guess(x, "all x man all y house r x y");
        x.tell(0, 1, 1, true);
        due("fifteen facts", x.facts(), 15);
        x.keep(0);
        due("worlds", x.worlds(), NONE);
        due("forms", x.forms(), NONE);
        due("form", x.form(0), false);
        due("name", x.name(), false);
        due("apart", x.apart(0), NONE);
        due("core", x.core(0), NONE);
        due("sure", x.sure(0, 0, 0), NONE);
        due("cause", x.cause(0, 0, 0, 0), NONE);
        due("without", x.without(0), NONE);
        due("questions", x.questions(), NONE);
        for (int what = 0; what < 4; what++) {
            due("settle", x.settle(what), NONE);
        }
        due("near", x.near(), NONE);
        due("holds", x.holds(0), NONE);
        due("holds", x.holds(1), NONE);
        due("against", x.against(), false);
        due("least", x.least(0), 1);
        due("so", x.so(0), 0);
        due("so", x.so(NONE), 0);
        due("breaks", x.breaks(0, 1), 1);
        due("fact", x.fact(0, 1, 1), 1);
        x.size(2, 1);
        due("thirteen facts", x.facts(), 13);
        due("worlds", x.worlds(), NONE);
        x.size(0, 1);
        due("nine facts", x.facts(), 9);
        due("worlds", x.worlds(), 512);
    }
}
