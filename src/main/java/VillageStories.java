/**
 * A village that fits its stories; ../shared/DOC.md says what each call answers.
 *
 * Words in capitals in the comments are the document's terms.
 */
public final class VillageStories {
    public static final int NONE = -1;

    private static final int KINDS = 3;
    private static final int MOST_SIZE = 3;
    private static final int RELATIONS = 4;
    private static final int MOST_FACTS = 12;
    private static final int PLACES = 4;
    private static final int STORIES = 8;
    private static final int KNOWNS = 40;
    private static final int LAST_DAY = 999;
    private static final int TAPE = 400;
    private static final int PARTS = 40;
    private static final int BINDERS = 4;
    private static final int QUESTIONS = 4;
    private static final int IMAGES = 3;

    private static final int FULL = -2;
    private static final int NO_SUCH_COUNT = -2;

    /** As many words of 64 worlds each as 12 FACTS need. */
    private static final int WORDS = 64;

    /** The worlds of one word in which the FACT at a bit (0 .. 5 of a ROW, from its end) is so. */
    private static final long[] PATTERNS = {
        0xAAAAAAAAAAAAAAAAL, 0xCCCCCCCCCCCCCCCCL, 0xF0F0F0F0F0F0F0F0L,
        0xFF00FF00FF00FF00L, 0xFFFF0000FFFF0000L, 0xFFFFFFFF00000000L
    };

    private final Solver solver;
    private final Told told;
    private final Reader reader;
    private final Told[] images;
    private final boolean[] imaged;

    public VillageStories() {
        solver = new Solver();
        told = solver.told;
        reader = new Reader();
        images = new Told[IMAGES];
        imaged = new boolean[IMAGES];
        for (int k = 0; k < IMAGES; k++) {
            images[k] = new Told();
        }
    }

    public boolean size(int kind, int size) {
        if (!told.shape.resize(kind, size)) {
            return false;
        }
        told.clearWorlds();
        solver.forget();
        return true;
    }

    public int relation(int first, int second) {
        int added = told.shape.addRelation(first, second);
        if (added != NONE) {
            told.clearWorlds();
            solver.forget();
        }
        return added;
    }

    public int facts() {
        return told.shape.facts;
    }

    public boolean tell(int relation, int i, int j, boolean is) {
        int place = told.shape.place(relation, i, j);
        if (place == NONE || told.isSo(place) == is) {
            return false;
        }
        told.world ^= 1L << told.shape.bit(place);
        return true;
    }

    public int fact(int relation, int i, int j) {
        int place = told.shape.place(relation, i, j);
        if (place == NONE) {
            return NONE;
        }
        return told.isSo(place) ? 1 : 0;
    }

    public boolean known(int relation, int i, int j, boolean is) {
        return told.addKnown(relation, i, j, is);
    }

    public boolean keep(int place) {
        if (place < 0 || place >= PLACES) {
            return false;
        }
        told.kept[place] = told.world;
        told.isKept[place] = true;
        return true;
    }

    public int apart(int place) {
        if (place < 0 || place >= PLACES || !told.isKept[place]) {
            return NONE;
        }
        return solver.fewestApart(told.kept[place]);
    }

    public int feed(int a, int b, int c, int d, int e) {
        if (told.taped + 20 > TAPE) {
            return NONE;
        }
        told.addBytes(a);
        told.addBytes(b);
        told.addBytes(c);
        told.addBytes(d);
        told.addBytes(e);
        return told.taped;
    }

    public int end(int n) {
        if (n < 0 || n > told.taped) {
            return NONE;
        }
        told.taped = n;
        return n;
    }

    public int story() {
        if (told.stories >= STORIES) {
            told.clearTape();
            return FULL;
        }
        Text text = reader.read(told);
        return text == null ? NONE : told.addStory(text);
    }

    public int guess() {
        Text text = reader.read(told);
        if (text == null) {
            return NONE;
        }
        told.guess = text;
        solver.forgetGuess();
        return text.parts;
    }

    public int fault(int what) {
        switch (what) {
            case 0:
                return told.fault;
            case 1:
                return told.faultPlace;
            default:
                return NONE;
        }
    }

    public boolean strike(int story) {
        if (!told.hasStory(story) || told.struckOn[story] != NONE) {
            return false;
        }
        told.struckOn[story] = told.day;
        return true;
    }

    public boolean day(int day) {
        if (day < told.day || day > LAST_DAY) {
            return false;
        }
        told.day = day;
        return true;
    }

    public boolean view(int day) {
        if (day < NONE || day > told.day) {
            return false;
        }
        told.view = day;
        return true;
    }

    public int so(int story) {
        Text text = story == NONE ? told.guess : told.storyText(story);
        if (text == null) {
            return NONE;
        }
        return solver.judge.isSoIn(told.shape, text, told.world) ? 1 : 0;
    }

    public int breaks(int story, int k) {
        Text text = told.storyText(story);
        if (text == null) {
            return NONE;
        }
        return solver.judge.breakNumber(told.shape, text, told.world, k);
    }

    public int worlds() {
        return solver.countWorlds();
    }

    public int forms() {
        return solver.countForms();
    }

    public boolean form(int k) {
        return becomes(solver.nthForm(k));
    }

    public boolean name() {
        int least = solver.leastRow();
        return least != told.world && becomes(least);
    }

    public int least(int kind) {
        return Shape.isKind(kind) ? solver.leastSize(kind) : NONE;
    }

    public int core(int k) {
        return nthBit(solver.coreStories(), k);
    }

    public int sure(int relation, int i, int j) {
        return solver.sureness(told.shape.place(relation, i, j));
    }

    public int cause(int relation, int i, int j, int k) {
        int place = told.shape.place(relation, i, j);
        int sureness = solver.sureness(place);
        return sureness == NONE ? NONE : nthBit(solver.causeStories(place, sureness), k);
    }

    public int without(int story) {
        return solver.countWithout(story);
    }

    public int questions() {
        return solver.fewestQuestions();
    }

    public int settle(int what) {
        int place = solver.settlingPlace();
        if (place == NONE) {
            return NONE;
        }
        int relation = told.shape.relationAt(place);
        switch (what) {
            case 0:
                return relation;
            case 1:
                return told.shape.firstAt(relation, place);
            case 2:
                return told.shape.secondAt(relation, place);
            case 3:
                return solver.greaterAt(place);
            default:
                return NONE;
        }
    }

    public int near() {
        int nearest = solver.nearestWorld();
        if (nearest == NONE) {
            return NONE;
        }
        int differed = Long.bitCount(told.world ^ nearest);
        told.world = nearest;
        return differed;
    }

    public int holds(int what) {
        switch (what) {
            case 0:
                return solver.countGuessWorlds();
            case 1:
                return solver.countGuessForms();
            default:
                return NONE;
        }
    }

    public boolean against() {
        return becomes(solver.formAgainst());
    }

    public int many(int what) {
        switch (what) {
            case 0:
            case 1:
            case 2:
                return told.shape.sizes[what];
            case 3:
                return told.shape.relations;
            case 4:
                return told.stories;
            case 5:
                return told.day;
            case 6:
                return told.view;
            case 7:
                return told.viewedStories();
            case 8:
                return Long.bitCount(told.world);
            case 9:
                return told.guess == null ? 0 : told.guess.parts;
            case 10:
                return told.knowns;
            default:
                return NO_SUCH_COUNT;
        }
    }

    public boolean image(int k) {
        if (k < 0 || k >= IMAGES) {
            return false;
        }
        images[k].copy(told);
        imaged[k] = true;
        return true;
    }

    public boolean again(int k) {
        if (k < 0 || k >= IMAGES || !imaged[k]) {
            return false;
        }
        told.copy(images[k]);
        solver.forget();
        return true;
    }

    private boolean becomes(int world) {
        if (world == NONE) {
            return false;
        }
        told.world = world;
        return true;
    }

    /** The number of the k-th bit that is set, from the lowest on. */
    private static int nthBit(int bits, int k) {
        int left = k;
        for (int bit = 0; bit < STORIES; bit++) {
            if ((bits >> bit & 1) != 0) {
                if (left == 0) {
                    return bit;
                }
                left--;
            }
        }
        return NONE;
    }

    /** SIZES and RELATIONS, and where by these each FACT stands in a ROW. */
    private static final class Shape {
        final int[] sizes = {2, 2, 2};
        final int[] first = new int[RELATIONS];
        final int[] second = new int[RELATIONS];
        /** Of each RELATION: where its FACTS start, for how many first ones, second ones. */
        final int[] start = new int[RELATIONS];
        final int[] height = new int[RELATIONS];
        final int[] width = new int[RELATIONS];
        int relations = 0;
        int facts = 0;

        static boolean isKind(int kind) {
            return kind >= 0 && kind < KINDS;
        }

        void copy(Shape from) {
            System.arraycopy(from.sizes, 0, sizes, 0, KINDS);
            System.arraycopy(from.first, 0, first, 0, RELATIONS);
            System.arraycopy(from.second, 0, second, 0, RELATIONS);
            relations = from.relations;
            layOut();
        }

        boolean resize(int kind, int size) {
            if (!isKind(kind) || size < 1 || size > MOST_SIZE || sizes[kind] == size) {
                return false;
            }
            sizes[kind] = size;
            layOut();
            return true;
        }

        int addRelation(int one, int other) {
            if (relations >= RELATIONS || !isKind(one) || other != NONE && !isKind(other)) {
                return NONE;
            }
            first[relations] = one;
            second[relations] = other;
            relations++;
            layOut();
            return relations - 1;
        }

        private void layOut() {
            facts = 0;
            for (int relation = 0; relation < relations; relation++) {
                int other = second[relation];
                start[relation] = facts;
                height[relation] = sizes[first[relation]];
                width[relation] = other == NONE ? 1 : sizes[other];
                facts += height[relation] * width[relation];
            }
        }

        boolean hasRelation(int relation) {
            return relation >= 0 && relation < relations;
        }

        boolean isOfTwo(int relation) {
            return relation >= 0 && relation < relations && second[relation] != NONE;
        }

        boolean isOfOneKindTwice(int relation) {
            return relation >= 0 && relation < relations && first[relation] == second[relation];
        }

        /** Where in a ROW a FACT stands, NONE if there is none such. */
        int place(int relation, int i, int j) {
            if (relation < 0 || relation >= relations) {
                return NONE;
            }
            int column = second[relation] == NONE ? 0 : j;
            if (i < 0 || i >= height[relation] || column < 0 || column >= width[relation]) {
                return NONE;
            }
            return start[relation] + i * width[relation] + column;
        }

        /** The first FACT is the highest bit, so that ROWS are in order as numbers are. */
        int bit(int place) {
            return facts - 1 - place;
        }

        int relationAt(int place) {
            int found = NONE;
            for (int relation = 0; relation < relations; relation++) {
                if (start[relation] <= place) {
                    found = relation;
                }
            }
            return found;
        }

        int firstAt(int relation, int place) {
            if (!hasRelation(relation)) {
                return NONE;
            }
            for (int i = 0; i < height[relation]; i++) {
                if (place < start[relation] + (i + 1) * width[relation]) {
                    return i;
                }
            }
            return NONE;
        }

        int secondAt(int relation, int place) {
            if (!isOfTwo(relation)) {
                return NONE;
            }
            return place - start[relation] - firstAt(relation, place) * width[relation];
        }
    }

    /** All that is told: what an image keeps. */
    private static final class Told {
        final Shape shape = new Shape();
        long world = 0;
        final long[] kept = new long[PLACES];
        final boolean[] isKept = new boolean[PLACES];
        final int[] tape = new int[TAPE];
        int taped = 0;
        int fault = 0;
        int faultPlace = NONE;
        final Text[] texts = new Text[STORIES];
        final int[] toldOn = new int[STORIES];
        final int[] struckOn = new int[STORIES];
        int stories = 0;
        Text guess = null;
        int day = 0;
        int view = NONE;
        final int[] knownFact = new int[KNOWNS];
        final boolean[] knownSo = new boolean[KNOWNS];
        final int[] knownOn = new int[KNOWNS];
        int knowns = 0;

        void copy(Told from) {
            shape.copy(from.shape);
            copyWorlds(from);
            System.arraycopy(from.tape, 0, tape, 0, TAPE);
            taped = from.taped;
            fault = from.fault;
            faultPlace = from.faultPlace;
            copyStories(from);
            guess = from.guess;
            day = from.day;
            view = from.view;
            System.arraycopy(from.knownFact, 0, knownFact, 0, KNOWNS);
            System.arraycopy(from.knownSo, 0, knownSo, 0, KNOWNS);
            System.arraycopy(from.knownOn, 0, knownOn, 0, KNOWNS);
            knowns = from.knowns;
        }

        private void copyWorlds(Told from) {
            world = from.world;
            System.arraycopy(from.kept, 0, kept, 0, PLACES);
            System.arraycopy(from.isKept, 0, isKept, 0, PLACES);
        }

        private void copyStories(Told from) {
            // A Text is never changed once it is told, so that images may share it.
            for (int story = 0; story < STORIES; story++) {
                texts[story] = from.texts[story];
                toldOn[story] = from.toldOn[story];
                struckOn[story] = from.struckOn[story];
            }
            stories = from.stories;
        }

        void clearWorlds() {
            world = 0;
            for (int place = 0; place < PLACES; place++) {
                isKept[place] = false;
            }
        }

        boolean isSo(int place) {
            return (world >> shape.bit(place) & 1) != 0;
        }

        /** The tape is taken, and there is no FAULT of it yet. */
        void clearTape() {
            taped = 0;
            fault = 0;
            faultPlace = NONE;
        }

        void addBytes(int four) {
            for (int shift = 24; shift >= 0 && taped < TAPE; shift -= 8) {
                tape[taped] = four >> shift & 255;
                taped++;
            }
        }

        boolean hasStory(int story) {
            return story >= 0 && story < stories;
        }

        Text storyText(int story) {
            return hasStory(story) ? texts[story] : null;
        }

        int addStory(Text text) {
            if (stories >= STORIES) {
                return NONE;
            }
            texts[stories] = text;
            toldOn[stories] = day;
            struckOn[stories] = NONE;
            stories++;
            return stories - 1;
        }

        private int viewedDay() {
            return view == NONE ? day : view;
        }

        /** STORIES by THE VIEW, as bits. */
        int viewedStories() {
            int viewed = 0;
            for (int story = 0; story < stories; story++) {
                boolean isStruck = struckOn[story] != NONE && struckOn[story] <= viewedDay();
                if (toldOn[story] <= viewedDay() && !isStruck) {
                    viewed |= 1 << story;
                }
            }
            return viewed;
        }

        boolean addKnown(int relation, int i, int j, boolean is) {
            int column = shape.isOfTwo(relation) ? j : 0;
            if (knowns >= KNOWNS || !shape.hasRelation(relation)
                    || i < 0 || i >= MOST_SIZE || column < 0 || column >= MOST_SIZE) {
                return false;
            }
            knownFact[knowns] = (relation * MOST_SIZE + i) * MOST_SIZE + column;
            knownSo[knowns] = is;
            knownOn[knowns] = day;
            knowns++;
            return true;
        }

        /** What is KNOWN of a FACT by THE VIEW: 1, 0, NONE if nothing is. */
        int knownOf(int relation, int i, int j) {
            int fact = (relation * MOST_SIZE + i) * MOST_SIZE + j;
            int found = NONE;
            for (int n = 0; n < knowns; n++) {
                if (knownFact[n] == fact && knownOn[n] <= viewedDay()) {
                    found = knownSo[n] ? 1 : 0;
                }
            }
            return found;
        }
    }

    /** The PARTS of a text in the order of their first tokens. */
    private static final class Text {
        static final int ALL = 0;
        static final int SOME = 1;
        static final int LEAST = 2;
        static final int MOST = 3;
        static final int NOT = 4;
        static final int AND = 5;
        static final int OR = 6;
        static final int IF = 7;
        static final int SAME = 8;
        static final int REACH = 9;
        static final int TREE = 10;
        static final int FACT = 11;

        final int[] word;
        /** The NUMBER of least and most, or the RELATION. */
        final int[] of;
        /** The slots of the VARS; of a PART that binds one: its slot, and its KIND. */
        final int[] first;
        final int[] second;
        /** The PART that comes behind this one and all that is in it. */
        final int[] behind;
        int parts = 0;

        Text(int room) {
            int length = Math.max(0, room);
            word = new int[length];
            of = new int[length];
            first = new int[length];
            second = new int[length];
            behind = new int[length];
        }

        void write(int itsWord, int itsOf, int itsFirst, int itsSecond) {
            if (parts < word.length) {
                word[parts] = itsWord;
                of[parts] = itsOf;
                first[parts] = itsFirst;
                second[parts] = itsSecond;
            }
            parts++;
        }

        /** A text of its own, as long as this one has become. */
        Text finished() {
            Text text = new Text(parts);
            for (int part = 0; part < parts && part < word.length; part++) {
                text.write(word[part], of[part], first[part], second[part]);
            }
            text.findBehind();
            return text;
        }

        private void findBehind() {
            for (int part = word.length - 1; part >= 0; part--) {
                int next = part + 1;
                for (int inside = partsInside(word[part]); inside > 0; inside--) {
                    next = next < word.length ? behind[next] : word.length;
                }
                behind[part] = next;
            }
        }

        private static int partsInside(int word) {
            switch (word) {
                case ALL:
                case SOME:
                case LEAST:
                case MOST:
                case NOT:
                    return 1;
                case AND:
                case OR:
                case IF:
                    return 2;
                default:
                    return 0;
            }
        }

        int leadingAlls() {
            int alls = 0;
            while (alls < parts && alls < BINDERS && word[alls] == ALL) {
                alls++;
            }
            return alls;
        }
    }

    /**
     * Reads a tape as a text. PARTS that are still to come wait on a stack instead of open calls,
     * for a tape can hold more PARTS, one within the other, than calls may stand open.
     */
    private static final class Reader {
        private static final int END = 0;
        private static final int WORD = 1;
        private static final int NUMBER = 2;
        private static final int OTHER = 3;
        private static final int DIGITS = 4;

        private Told told = null;
        private int[] bytes = null;
        private int length = 0;
        private Shape shape = null;
        private boolean broken = false;
        private final Text draft = new Text(PARTS);
        /** What is bound around each PART to come: four bits for each VAR, above these how deep. */
        private final int[] scopes = new int[TAPE + 2];
        private int waiting = 0;
        private int token = END;
        private int place = 0;
        private int next = 0;
        private int number = 0;

        /** Takes the tape, and tells the FAULT: the text, or null if there is one. */
        Text read(Told from) {
            told = from;
            bytes = told.tape;
            length = told.taped;
            shape = told.shape;
            told.clearTape();
            broken = false;
            draft.parts = 0;
            next = 0;
            waiting = 0;
            expectPart(0);
            advance();
            for (int turn = 0; turn <= TAPE && waiting > 0 && !broken; turn++) {
                readPart();
            }
            if (token != END) {
                refuse();
            }
            return told.fault == 0 ? draft.finished() : null;
        }

        private void readPart() {
            waiting--;
            int scope = scopes[waiting];
            int word = firstWord();
            if (word == NONE) {
                refuse();
                return;
            }
            if (draft.parts >= PARTS) {
                note(4, place);
            }
            switch (word) {
                case Text.ALL:
                case Text.SOME:
                case Text.LEAST:
                case Text.MOST:
                    readBinder(word, scope);
                    break;
                case Text.NOT:
                    readJoint(word, scope);
                    break;
                case Text.AND:
                case Text.OR:
                case Text.IF:
                    readJoint(word, scope);
                    expectPart(scope);
                    break;
                case Text.SAME:
                    readSame(scope);
                    break;
                case Text.REACH:
                    readReach(scope);
                    break;
                case Text.TREE:
                    readTree();
                    break;
                default:
                    readFact(scope);
                    break;
            }
        }

        private int firstWord() {
            if (isWord("all")) {
                return Text.ALL;
            }
            if (isWord("some")) {
                return Text.SOME;
            }
            if (isWord("least")) {
                return Text.LEAST;
            }
            if (isWord("most")) {
                return Text.MOST;
            }
            if (isWord("not")) {
                return Text.NOT;
            }
            if (isWord("and")) {
                return Text.AND;
            }
            if (isWord("or")) {
                return Text.OR;
            }
            if (isWord("if")) {
                return Text.IF;
            }
            if (isWord("same")) {
                return Text.SAME;
            }
            if (isWord("reach")) {
                return Text.REACH;
            }
            if (isWord("tree")) {
                return Text.TREE;
            }
            return shape.hasRelation(oneLetter() - 'r') ? Text.FACT : NONE;
        }

        private void readBinder(int word, int scope) {
            if (depth(scope) >= BINDERS) {
                note(5, place);
            }
            advance();
            int count = word == Text.LEAST || word == Text.MOST ? takeNumber() : 0;
            int variable = takeVariable();
            int kind = takeKind();
            if (broken) {
                return;
            }
            int slot = Math.min(depth(scope), BINDERS - 1);
            draft.write(word, count, slot, kind);
            expectPart(bind(scope, variable, kind, slot));
        }

        private void readJoint(int word, int scope) {
            advance();
            draft.write(word, 0, 0, 0);
            expectPart(scope);
        }

        private void readSame(int scope) {
            advance();
            int one = takeBound(scope, NONE);
            int other = takeBound(scope, kindOf(one));
            draft.write(Text.SAME, 0, slotOf(one), slotOf(other));
        }

        private void readReach(int scope) {
            advance();
            int relation = takeRoad();
            int kind = shape.isOfOneKindTwice(relation) ? shape.first[relation] : NONE;
            int from = takeBound(scope, kind);
            int to = takeBound(scope, kind);
            draft.write(Text.REACH, relation, slotOf(from), slotOf(to));
        }

        private void readTree() {
            advance();
            draft.write(Text.TREE, takeRoad(), 0, 0);
        }

        private void readFact(int scope) {
            int relation = takeRelation();
            if (!shape.hasRelation(relation)) {
                return;
            }
            int one = takeBound(scope, shape.first[relation]);
            int other = shape.isOfTwo(relation) ? takeBound(scope, shape.second[relation]) : 0;
            draft.write(Text.FACT, relation, slotOf(one), slotOf(other));
        }

        private int takeNumber() {
            if (token != NUMBER) {
                refuse();
            }
            if (broken) {
                return NONE;
            }
            int taken = number;
            advance();
            return taken;
        }

        private int takeVariable() {
            int letter = oneLetter();
            if (letter < 'w' || letter > 'z') {
                refuse();
            }
            if (broken) {
                return NONE;
            }
            advance();
            return letter - 'w';
        }

        private int takeKind() {
            int kind = NONE;
            if (isWord("man")) {
                kind = 0;
            } else if (isWord("house")) {
                kind = 1;
            } else if (isWord("day")) {
                kind = 2;
            } else {
                refuse();
            }
            if (broken) {
                return NONE;
            }
            advance();
            return kind;
        }

        private int takeRelation() {
            int relation = oneLetter() - 'r';
            if (!shape.hasRelation(relation)) {
                refuse();
            }
            if (broken) {
                return NONE;
            }
            advance();
            return relation;
        }

        /** The RELATION behind reach or tree. */
        private int takeRoad() {
            int at = place;
            int relation = takeRelation();
            if (!shape.isOfOneKindTwice(relation)) {
                note(3, at);
            }
            return relation;
        }

        /** What a VAR is bound as, 0 if it is not; a KIND that it should be of may be NONE. */
        private int takeBound(int scope, int kind) {
            int at = place;
            int variable = takeVariable();
            if (variable == NONE) {
                return 0;
            }
            int bound = scope >> 4 * variable & 15;
            if (bound == 0) {
                note(2, at);
            } else if (kind != NONE && kindOf(bound) != kind) {
                note(3, at);
            }
            return bound;
        }

        private static int bind(int scope, int variable, int kind, int slot) {
            int shift = 4 * variable;
            int deeper = Math.min(depth(scope) + 1, BINDERS);
            int others = scope & 0xFFFF & ~(15 << shift);
            return others | (1 + kind + 4 * slot) << shift | deeper << 16;
        }

        private static int depth(int scope) {
            return scope >> 16;
        }

        private static int kindOf(int bound) {
            return bound == 0 ? NONE : bound - 1 & 3;
        }

        private static int slotOf(int bound) {
            return bound == 0 ? 0 : bound - 1 >> 2;
        }

        private void expectPart(int scope) {
            if (waiting < scopes.length) {
                scopes[waiting] = scope;
                waiting++;
            }
        }

        /** Fault 1 goes before all others, wherever they are. */
        private void refuse() {
            if (!broken) {
                broken = true;
                told.fault = 1;
                told.faultPlace = place;
            }
        }

        /** Places only grow, and of one place the least comes first: so the first one stays. */
        private void note(int which, int at) {
            if (told.fault == 0) {
                told.fault = which;
                told.faultPlace = at;
            }
        }

        private void advance() {
            while (next < length && (bytes[next] == 10 || bytes[next] == 32)) {
                next++;
            }
            place = next;
            number = 0;
            if (next >= length) {
                token = END;
            } else if (isLetter(next)) {
                token = WORD;
                while (next < length && isLetter(next)) {
                    next++;
                }
            } else if (isDigit(next)) {
                token = NUMBER;
                while (next - place < DIGITS && isDigit(next)) {
                    number = 10 * number + bytes[next] - '0';
                    next++;
                }
            } else {
                token = OTHER;
            }
        }

        private boolean isLetter(int at) {
            return at < length && bytes[at] >= 'a' && bytes[at] <= 'z';
        }

        private boolean isDigit(int at) {
            return at < length && bytes[at] >= '0' && bytes[at] <= '9';
        }

        private boolean isWord(String word) {
            if (token != WORD || next - place != word.length()) {
                return false;
            }
            for (int at = 0; at < word.length(); at++) {
                if (bytes[place + at] != word.charAt(at)) {
                    return false;
                }
            }
            return true;
        }

        /** The letter of a word of one letter, 0 of another token. */
        private int oneLetter() {
            return token == WORD && next - place == 1 ? bytes[place] : 0;
        }
    }

    /**
     * Tells where a text is so: for 64 worlds at once, each a bit of a word, or for one world, all
     * bits of the word being that one.
     */
    private static final class Judge {
        private static final int ALL_FACTS = RELATIONS * MOST_SIZE * MOST_SIZE;

        private Shape shape = null;
        private Text text = null;
        /** By place: the worlds in which the FACT there is so. */
        private final long[] facts = new long[ALL_FACTS];
        private final int[] chosen = new int[BINDERS];
        /** By place: the worlds in which the second one of the FACT there is reached from the first. */
        private final long[] paths = new long[ALL_FACTS];
        /** RELATIONS whose paths are found, as bits: one text may ask for them hundreds of times. */
        private int pathed = 0;

        boolean isSoIn(Shape its, Text read, long world) {
            takeWorld(its, read, world);
            return judged(0, 0) != 0;
        }

        /** The worlds of the word with this number (64 in each) in which the text is so. */
        long soInWord(Shape its, Text read, int word) {
            shape = its;
            text = read;
            pathed = 0;
            for (int place = 0; place < shape.facts && place < ALL_FACTS; place++) {
                facts[place] = WorldSet.soAt(shape.bit(place), word);
            }
            return judged(0, 0);
        }

        private void takeWorld(Shape its, Text read, long world) {
            shape = its;
            text = read;
            pathed = 0;
            for (int place = 0; place < shape.facts && place < ALL_FACTS; place++) {
                facts[place] = (world >> shape.bit(place) & 1) == 0 ? 0 : -1L;
            }
        }

        /** The k-th number of the row at which a text BREAKS, NONE if there is none such. */
        int breakNumber(Shape its, Text read, long world, int k) {
            takeWorld(its, read, world);
            int alls = text.leadingAlls();
            if (k < 0 || k >= alls) {
                return NONE;
            }
            int rows = 1;
            for (int at = 0; at < alls; at++) {
                chosen[at] = 0;
                rows *= sizeAt(at);
            }
            for (int row = 0; row < rows; row++) {
                if (judged(alls, alls) == 0) {
                    return chosen[k];
                }
                chooseNext(alls);
            }
            return NONE;
        }

        private void chooseNext(int alls) {
            for (int at = alls - 1; at >= 0; at--) {
                chosen[at]++;
                if (chosen[at] < sizeAt(at)) {
                    return;
                }
                chosen[at] = 0;
            }
        }

        /** How many there are of the KIND that a PART binds a VAR of. */
        private int sizeAt(int part) {
            int kind = text.second[part];
            return kind >= 0 && kind < KINDS ? shape.sizes[kind] : 0;
        }

        private long judged(int part, int depth) {
            if (part >= text.parts || depth > PARTS) {
                return 0;
            }
            switch (text.word[part]) {
                case Text.ALL:
                case Text.SOME:
                case Text.LEAST:
                case Text.MOST:
                    return counted(part, depth);
                case Text.NOT:
                case Text.AND:
                case Text.OR:
                case Text.IF:
                    return joined(part, depth);
                case Text.SAME:
                    return slot(text.first[part]) == slot(text.second[part]) ? -1L : 0L;
                case Text.REACH:
                    return reached(text.of[part], slot(text.first[part]), slot(text.second[part]));
                case Text.TREE:
                    return treeLike(text.of[part]);
                default:
                    return factAt(text.of[part], slot(text.first[part]), slot(text.second[part]));
            }
        }

        private int slot(int number) {
            return number >= 0 && number < BINDERS ? chosen[number] : 0;
        }

        private long joined(int part, int depth) {
            if (part + 1 >= text.parts) {
                return 0;
            }
            long one = judged(part + 1, depth + 1);
            int other = text.behind[part + 1];
            switch (text.word[part]) {
                case Text.NOT:
                    return ~one;
                case Text.AND:
                    return one == 0 ? 0 : one & judged(other, depth + 1);
                case Text.OR:
                    return one == -1L ? -1L : one | judged(other, depth + 1);
                default:
                    return one == 0 ? -1L : ~one | judged(other, depth + 1);
            }
        }

        private long counted(int part, int depth) {
            int size = sizeAt(part);
            int mine = text.first[part];
            if (mine < 0 || mine >= BINDERS) {
                return 0;
            }
            long one = 0;
            long two = 0;
            long three = 0;
            for (int number = 0; number < size; number++) {
                chosen[mine] = number;
                long now = judged(part + 1, depth + 1);
                three |= two & now;
                two |= one & now;
                one |= now;
            }
            switch (text.word[part]) {
                case Text.ALL:
                    return atLeast(size, one, two, three);
                case Text.SOME:
                    return one;
                case Text.LEAST:
                    return atLeast(text.of[part], one, two, three);
                default:
                    return ~atLeast(text.of[part] + 1, one, two, three);
            }
        }

        private static long atLeast(int count, long one, long two, long three) {
            switch (count) {
                case 0:
                    return -1L;
                case 1:
                    return one;
                case 2:
                    return two;
                case 3:
                    return three;
                default:
                    return 0;
            }
        }

        private long factAt(int relation, int i, int j) {
            int place = shape.place(relation, i, j);
            return place >= 0 && place < ALL_FACTS ? facts[place] : 0;
        }

        private long reached(int relation, int from, int to) {
            if (!shape.isOfOneKindTwice(relation)) {
                return 0;
            }
            findPaths(relation);
            int place = shape.place(relation, from, to);
            return place >= 0 && place < ALL_FACTS ? paths[place] : 0;
        }

        private long treeLike(int relation) {
            if (!shape.isOfOneKindTwice(relation)) {
                return 0;
            }
            findPaths(relation);
            int start = shape.start[relation];
            int size = shape.width[relation];
            long bad = 0;
            for (int i = 0; i < size; i++) {
                long taken = 0;
                for (int j = 0; j < size; j++) {
                    long now = facts[start + i * size + j];
                    bad |= taken & now;
                    taken |= now;
                }
                bad |= paths[start + i * size + i];
            }
            return ~bad;
        }

        private void findPaths(int relation) {
            if ((pathed >> relation & 1) != 0) {
                return;
            }
            pathed |= 1 << relation;
            int start = shape.start[relation];
            int size = shape.width[relation];
            System.arraycopy(facts, start, paths, start, size * size);
            for (int by = 0; by < size; by++) {
                for (int i = 0; i < size; i++) {
                    long there = paths[start + i * size + by];
                    for (int j = 0; j < size; j++) {
                        paths[start + i * size + j] |= there & paths[start + by * size + j];
                    }
                }
            }
        }
    }

    /** A set of worlds: a world's number is its ROW, read as a binary number. */
    private static final class WorldSet {
        final long[] words = new long[WORDS];
        private int used = 0;
        private int facts = 0;

        void takeNone(int factCount) {
            facts = Math.max(0, Math.min(factCount, MOST_FACTS));
            used = facts <= 6 ? 1 : 1 << facts - 6;
            for (int at = 0; at < used; at++) {
                words[at] = 0;
            }
        }

        void takeAll(int factCount) {
            takeNone(factCount);
            for (int at = 0; at < used; at++) {
                words[at] = facts < 6 ? (1L << (1 << facts)) - 1 : -1L;
            }
        }

        void copy(WorldSet from) {
            facts = from.facts;
            used = from.used;
            System.arraycopy(from.words, 0, words, 0, used);
        }

        int usedWords() {
            return used;
        }

        int most() {
            return 1 << facts;
        }

        void add(int world) {
            if (world >= 0 && world < most()) {
                words[world >> 6] |= 1L << world;
            }
        }

        boolean has(int world) {
            return world >= 0 && world < most() && (words[world >> 6] >> world & 1) != 0;
        }

        void keepOnly(WorldSet others) {
            for (int at = 0; at < used; at++) {
                words[at] &= others.words[at];
            }
        }

        void drop(WorldSet others) {
            for (int at = 0; at < used; at++) {
                words[at] &= ~others.words[at];
            }
        }

        /** Those worlds stay in which the FACT at a bit is so, or is not. */
        void keepWhere(int bit, boolean is) {
            for (int at = 0; at < used; at++) {
                words[at] &= is ? soAt(bit, at) : ~soAt(bit, at);
            }
        }

        int countWhere(int bit) {
            int count = 0;
            for (int at = 0; at < used; at++) {
                count += Long.bitCount(words[at] & soAt(bit, at));
            }
            return count;
        }

        /** Of the 64 worlds of a word those in which the FACT at a bit is so. */
        static long soAt(int bit, int at) {
            if (bit >= 0 && bit < PATTERNS.length) {
                return PATTERNS[bit];
            }
            return (at >> bit - PATTERNS.length & 1) == 0 ? 0 : -1L;
        }

        int count() {
            int count = 0;
            for (int at = 0; at < used; at++) {
                count += Long.bitCount(words[at]);
            }
            return count;
        }

        boolean isNothing() {
            for (int at = 0; at < used; at++) {
                if (words[at] != 0) {
                    return false;
                }
            }
            return true;
        }

        /** The k-th world, by ROWS, NONE if there is none such. */
        int nth(int k) {
            int left = k;
            for (int world = 0; world < most() && left >= 0; world++) {
                if (has(world)) {
                    if (left == 0) {
                        return world;
                    }
                    left--;
                }
            }
            return NONE;
        }
    }

    /** What worlds become by other numbers for the men, the houses, the days. */
    private static final class OtherNumbers {
        /** All orders of three; the first one is all of one, the first two are all of two. */
        private static final int[] ORDERS = {
            0, 1, 2, 1, 0, 2, 0, 2, 1, 1, 2, 0, 2, 0, 1, 2, 1, 0
        };
        private static final int[] ORDERS_OF = {1, 1, 2, 6};
        private static final int MOST_WAYS = 216;

        private final int[] order = new int[KINDS];
        /** By way and by place: the FACT there, as a bit where the way puts it. */
        private final int[] moved = new int[MOST_WAYS * MOST_FACTS];
        private final WorldSet leastRows = new WorldSet();
        private final WorldSet seen = new WorldSet();
        private int ways = 0;
        private int facts = 0;
        private boolean isLaidOut = false;
        private boolean isMarked = false;

        void forget() {
            isLaidOut = false;
            isMarked = false;
        }

        /** All worlds whose ROW is the least of all that they have by other numbers. */
        WorldSet leastOnes(Shape shape) {
            layOut(shape);
            if (!isMarked) {
                markLeastOnes();
                isMarked = true;
            }
            return leastRows;
        }

        int leastOf(Shape shape, int world) {
            layOut(shape);
            int least = world;
            for (int way = 0; way < ways; way++) {
                least = Math.min(least, renumbered(way, world));
            }
            return least;
        }

        int fewestApart(Shape shape, int world, int other) {
            layOut(shape);
            int fewest = MOST_FACTS;
            for (int way = 0; way < ways; way++) {
                fewest = Math.min(fewest, Integer.bitCount(world ^ renumbered(way, other)));
            }
            return fewest;
        }

        /** By rows from the least on, the first one met of those that are alike is their least. */
        private void markLeastOnes() {
            leastRows.takeNone(facts);
            seen.takeNone(facts);
            for (int world = 0; world < seen.most(); world++) {
                if (!seen.has(world)) {
                    leastRows.add(world);
                    for (int way = 0; way < ways; way++) {
                        seen.add(renumbered(way, world));
                    }
                }
            }
        }

        private int renumbered(int way, int world) {
            int row = 0;
            for (int place = 0; place < facts; place++) {
                if ((world >> facts - 1 - place & 1) != 0) {
                    row |= moved[way * MOST_FACTS + place];
                }
            }
            return row;
        }

        private void layOut(Shape shape) {
            if (isLaidOut || shape.facts > MOST_FACTS) {
                return;
            }
            isLaidOut = true;
            facts = shape.facts;
            ways = 0;
            int men = ordersOf(shape, 0);
            int houses = ordersOf(shape, 1);
            int days = ordersOf(shape, 2);
            for (order[0] = 0; order[0] < men; order[0]++) {
                for (order[1] = 0; order[1] < houses; order[1]++) {
                    for (order[2] = 0; order[2] < days; order[2]++) {
                        addWay(shape);
                    }
                }
            }
        }

        /** A KIND of no RELATION needs no other numbers: no FACT would move. */
        private static int ordersOf(Shape shape, int kind) {
            for (int relation = 0; relation < shape.relations; relation++) {
                if (shape.first[relation] == kind || shape.second[relation] == kind) {
                    return ORDERS_OF[shape.sizes[kind]];
                }
            }
            return 1;
        }

        private void addWay(Shape shape) {
            int place = 0;
            for (int relation = 0; relation < shape.relations; relation++) {
                int other = shape.second[relation];
                for (int i = 0; i < shape.height[relation]; i++) {
                    int row = ordered(shape.first[relation], i) * shape.width[relation];
                    for (int j = 0; j < shape.width[relation]; j++) {
                        int to = shape.start[relation] + row + (other == NONE ? 0 : ordered(other, j));
                        if (ways < MOST_WAYS && place < MOST_FACTS) {
                            moved[ways * MOST_FACTS + place] = 1 << shape.bit(to);
                        }
                        place++;
                    }
                }
            }
            ways = Math.min(ways + 1, MOST_WAYS);
        }

        private int ordered(int kind, int number) {
            int at = order[kind] * MOST_SIZE + number;
            return at >= 0 && at < ORDERS.length ? ORDERS[at] : number;
        }
    }

    /** Answers what is asked of WORLDS; it keeps what it has judged until it must forget it. */
    private static final class Solver {
        /** What is judged of THE GUESS stands behind the STORIES. */
        private static final int GUESS = STORIES;
        private static final int MOST_ASKED = 1 << QUESTIONS;

        final Told told = new Told();
        final Judge judge = new Judge();
        private final OtherNumbers others = new OtherNumbers();
        private final WorldSet[] truths = new WorldSet[STORIES + 1];
        private int judged = 0;
        private final WorldSet possible = new WorldSet();
        private final WorldSet worlds = new WorldSet();
        private final WorldSet picked = new WorldSet();
        private final Shape trial = new Shape();
        private final int[] leastSizes = new int[KINDS];
        private int leastFor = NONE;
        private final int[] asked = new int[MOST_FACTS];

        Solver() {
            for (int text = 0; text <= STORIES; text++) {
                truths[text] = new WorldSet();
            }
        }

        /** SIZES, RELATIONS or STORIES are others now than those that were judged. */
        void forget() {
            judged = 0;
            leastFor = NONE;
            others.forget();
        }

        void forgetGuess() {
            judged &= ~(1 << GUESS);
        }

        private boolean canTell() {
            return told.shape.facts <= MOST_FACTS;
        }

        /** Finds what is possible, as it is KNOWN, and WORLDS; false if they can't be told. */
        private boolean lookUp() {
            if (!canTell()) {
                return false;
            }
            findPossible();
            worlds.copy(possible);
            int viewed = told.viewedStories();
            for (int story = 0; story < STORIES; story++) {
                if ((viewed >> story & 1) != 0) {
                    worlds.keepOnly(truth(story, told.texts[story]));
                }
            }
            return true;
        }

        private void findPossible() {
            Shape shape = told.shape;
            possible.takeAll(shape.facts);
            for (int relation = 0; relation < shape.relations; relation++) {
                for (int i = 0; i < shape.height[relation]; i++) {
                    for (int j = 0; j < shape.width[relation]; j++) {
                        int is = told.knownOf(relation, i, j);
                        if (is != NONE) {
                            possible.keepWhere(shape.bit(shape.place(relation, i, j)), is == 1);
                        }
                    }
                }
            }
        }

        private WorldSet truth(int number, Text text) {
            WorldSet truth = truths[number];
            if (text != null && (judged >> number & 1) == 0) {
                truth.takeNone(told.shape.facts);
                for (int at = 0; at < truth.usedWords(); at++) {
                    truth.words[at] = judge.soInWord(told.shape, text, at);
                }
                judged |= 1 << number;
            }
            return truth;
        }

        int countWorlds() {
            return lookUp() ? worlds.count() : NONE;
        }

        /** Of WORLDS, that are found, picks FORMS. */
        private void pickForms() {
            picked.copy(worlds);
            picked.keepOnly(others.leastOnes(told.shape));
        }

        int countForms() {
            if (!lookUp()) {
                return NONE;
            }
            pickForms();
            return picked.count();
        }

        int nthForm(int k) {
            if (!lookUp()) {
                return NONE;
            }
            pickForms();
            return picked.nth(k);
        }

        int leastRow() {
            return canTell() ? others.leastOf(told.shape, (int) told.world) : NONE;
        }

        int fewestApart(long kept) {
            if (!canTell()) {
                return NONE;
            }
            return others.fewestApart(told.shape, (int) told.world, (int) kept);
        }

        int leastSize(int kind) {
            int viewed = told.viewedStories();
            if (leastFor != viewed) {
                findLeastSizes(viewed);
                leastFor = viewed;
            }
            return leastSizes[kind];
        }

        private void findLeastSizes(int viewed) {
            trial.copy(told.shape);
            for (int together = KINDS; together <= KINDS * MOST_SIZE; together++) {
                for (int men = 1; men <= MOST_SIZE; men++) {
                    for (int houses = 1; houses <= MOST_SIZE; houses++) {
                        if (fits(men, houses, together - men - houses, viewed)) {
                            System.arraycopy(trial.sizes, 0, leastSizes, 0, KINDS);
                            return;
                        }
                    }
                }
            }
            for (int kind = 0; kind < KINDS; kind++) {
                leastSizes[kind] = NONE;
            }
        }

        private boolean fits(int men, int houses, int days, int viewed) {
            if (days < 1 || days > MOST_SIZE) {
                return false;
            }
            trial.resize(0, men);
            trial.resize(1, houses);
            trial.resize(2, days);
            if (trial.facts > MOST_FACTS) {
                return false;
            }
            picked.takeAll(trial.facts);
            for (int at = 0; at < picked.usedWords(); at++) {
                long left = picked.words[at];
                for (int story = 0; story < STORIES && left != 0; story++) {
                    Text text = told.texts[story];
                    if ((viewed >> story & 1) != 0 && text != null) {
                        left &= judge.soInWord(trial, text, at);
                    }
                }
                if (left != 0) {
                    return true;
                }
            }
            return false;
        }

        /** CORE as bits. */
        int coreStories() {
            return lookUp() && worlds.isNothing() ? fewestAgainst(possible) : 0;
        }

        int sureness(int place) {
            if (place == NONE || !lookUp() || worlds.isNothing()) {
                return NONE;
            }
            int isSo = worlds.countWhere(told.shape.bit(place));
            if (isSo == 0) {
                return 0;
            }
            return isSo == worlds.count() ? 1 : NONE;
        }

        /** CAUSE as bits: the fewest that leave nothing in which the FACT, just SURE, is otherwise. */
        int causeStories(int place, int sureness) {
            picked.copy(possible);
            picked.keepWhere(told.shape.bit(place), sureness == 0);
            return fewestAgainst(picked);
        }

        /** The fewest STORIES, as bits, which are so together in nothing of the set. */
        private int fewestAgainst(WorldSet set) {
            int viewed = told.viewedStories();
            int found = viewed;
            for (int stories = 0; stories < 1 << STORIES; stories++) {
                boolean isBetter = (stories & ~viewed) == 0 && isBefore(stories, found);
                if (isBetter && leavesNothing(set, stories)) {
                    found = stories;
                }
            }
            return found;
        }

        /** Fewer go first; of as many the one with the least number that the other has not. */
        private static boolean isBefore(int stories, int others) {
            int more = Integer.bitCount(stories) - Integer.bitCount(others);
            int differing = stories ^ others;
            int lowest = differing & -differing;
            return more < 0 || more == 0 && (stories & lowest) != 0;
        }

        private boolean leavesNothing(WorldSet set, int stories) {
            for (int at = 0; at < set.usedWords(); at++) {
                long left = set.words[at];
                for (int story = 0; story < STORIES; story++) {
                    if ((stories >> story & 1) != 0) {
                        left &= truths[story].words[at];
                    }
                }
                if (left != 0) {
                    return false;
                }
            }
            return true;
        }

        int countWithout(int story) {
            int viewed = told.viewedStories();
            boolean isViewed = told.hasStory(story) && (viewed >> story & 1) != 0;
            if (!isViewed || !lookUp()) {
                return NONE;
            }
            picked.copy(possible);
            for (int other = 0; other < STORIES; other++) {
                if (other != story && (viewed >> other & 1) != 0) {
                    picked.keepOnly(truths[other]);
                }
            }
            return picked.count();
        }

        int fewestQuestions() {
            if (!lookUp() || worlds.isNothing() || worlds.count() > MOST_ASKED) {
                return NONE;
            }
            int all = takeAsked();
            for (int questions = 0; questions <= QUESTIONS; questions++) {
                if (suffice(asked, all, questions)) {
                    return questions;
                }
            }
            return NONE;
        }

        /** Numbers WORLDS anew, few as they are, and tells of each FACT in which it is so. */
        private int takeAsked() {
            int all = 0;
            for (int place = 0; place < MOST_FACTS; place++) {
                asked[place] = 0;
            }
            int count = worlds.count();
            for (int k = 0; k < count; k++) {
                int world = worlds.nth(k);
                for (int place = 0; place < told.shape.facts && place < MOST_FACTS; place++) {
                    if ((world >> told.shape.bit(place) & 1) != 0) {
                        asked[place] |= 1 << k;
                    }
                }
                all |= 1 << k;
            }
            return all;
        }

        /** Whether so many questions leave one world at most; it calls itself with one less. */
        private static boolean suffice(int[] asked, int left, int questions) {
            if (Integer.bitCount(left) <= 1) {
                return true;
            }
            if (questions <= 0 || Integer.bitCount(left) > 1 << questions) {
                return false;
            }
            for (int place = 0; place < asked.length; place++) {
                int yes = left & asked[place];
                int no = left & ~asked[place];
                boolean isHelp = yes != 0 && no != 0;
                if (isHelp && suffice(asked, yes, questions - 1) && suffice(asked, no, questions - 1)) {
                    return true;
                }
            }
            return false;
        }

        int settlingPlace() {
            if (!lookUp() || worlds.isNothing()) {
                return NONE;
            }
            int found = NONE;
            for (int place = 0; place < told.shape.facts; place++) {
                if (found == NONE || greaterAt(place) < greaterAt(found)) {
                    found = place;
                }
            }
            return found;
        }

        /** The greater of both numbers, of WORLDS in which a FACT is so, and is not. */
        int greaterAt(int place) {
            int isSo = worlds.countWhere(told.shape.bit(place));
            return Math.max(isSo, worlds.count() - isSo);
        }

        int nearestWorld() {
            if (!lookUp()) {
                return NONE;
            }
            int nearest = NONE;
            int fewest = MOST_FACTS + 1;
            for (int world = 0; world < worlds.most(); world++) {
                int differing = Long.bitCount(told.world ^ world);
                if (differing < fewest && worlds.has(world)) {
                    nearest = world;
                    fewest = differing;
                }
            }
            return nearest;
        }

        int countGuessWorlds() {
            if (told.guess == null || !lookUp()) {
                return NONE;
            }
            worlds.keepOnly(truth(GUESS, told.guess));
            return worlds.count();
        }

        int countGuessForms() {
            if (told.guess == null || !lookUp()) {
                return NONE;
            }
            pickForms();
            picked.keepOnly(truth(GUESS, told.guess));
            return picked.count();
        }

        int formAgainst() {
            if (told.guess == null || !lookUp()) {
                return NONE;
            }
            pickForms();
            picked.drop(truth(GUESS, told.guess));
            return picked.nth(0);
        }
    }
}
