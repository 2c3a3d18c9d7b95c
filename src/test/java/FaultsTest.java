import java.util.ArrayList;
import java.util.Arrays;
import java.util.List;
import java.util.Set;
import java.util.TreeSet;

/**
 * The tape and its texts: which token may go on where, each FAULT with its place, which of several is told,
 * and how far the numbers of bytes, PARTS and binders go.
 */
public final class FaultsTest {
    private static final int NONE = VillageStories.NONE;
    private static final Check CHECK = new Check();

    private static final List<String> VARS = List.of("x", "y", "z", "w");
    private static final List<String> KINDS = List.of("man", "house", "day");
    private static final List<String> RELATIONS = List.of("r", "s", "t", "u");
    private static final List<String> WORDS = List.of("all", "some", "least", "most", "not", "and", "or", "if", "same",
            "reach", "tree");
    private static final List<String> NUMBERS = List.of("0", "1", "12", "123", "1234", "0000", "0007", "9999");
    private static final List<String> SENSELESS = List.of("a", "v", "q", "xx", "rr", "al", "alls", "men", "mans", "trees",
            "exists", "ALL", "X", "R", "#", "(", "-1", "+1", ".", "\t", "\r", "\u0000", "\u007f", "\u0080", "\u00e9",
            "\u00ff", "`", "{", "/", ":", "@", "[", "_");

    private FaultsTest() {
    }

    public static void main(String[] args) {
        for (int relations = 0; relations <= 4; relations++) {
            tokensThatGoOn(relations);
        }
        endsOfTexts();
        blanks();
        numbers();
        bytesOfTheTape();
        unbound();
        wrongKinds();
        sameKinds();
        reachAndTree();
        parts();
        binders();
        which();
        told();
        CHECK.finish();
    }

    /** r of two men, s of a house, t of a day and a man, u of two houses, as many as are asked for. */
    private static VillageStories village(int relations) {
        int[][] kinds = {{0, 0}, {1, NONE}, {2, 0}, {1, 1}};
        VillageStories x = new VillageStories();
        for (int r = 0; r < relations; r++) {
            x.relation(kinds[r][0], kinds[r][1]);
        }
        return x;
    }

    /** Both as a guess and as a story the text has this fault at this place; 0 and NONE: it has none. */
    private static void due(VillageStories x, String text, int fault, int place) {
        x.image(2);
        int guess = Tape.guess(x, text);
        CHECK.due("guess '" + text + "'", guess == NONE ? 1 : 0, fault == 0 ? 0 : 1);
        CHECK.due("fault(0) of guess '" + text + "'", x.fault(0), fault);
        CHECK.due("fault(1) of guess '" + text + "'", x.fault(1), place);
        CHECK.due("the tape is taken", x.end(1), NONE);
        int story = Tape.story(x, text);
        CHECK.due("story '" + text + "'", story, fault == 0 ? 0 : NONE);
        CHECK.due("fault(0) of story '" + text + "'", x.fault(0), fault);
        CHECK.due("fault(1) of story '" + text + "'", x.fault(1), place);
        CHECK.due("the tape is taken", x.end(1), NONE);
        CHECK.due("many(4)", x.many(4), fault == 0 ? 1 : 0);
        x.again(2);
    }

    private static void right(VillageStories x, String text) {
        due(x, text, 0, NONE);
    }

    /** At the first place where the piece stands in the text. */
    private static void at(VillageStories x, String text, int fault, String piece) {
        due(x, text, fault, text.indexOf(piece));
    }

    private static void atLast(VillageStories x, String text, int fault, String piece) {
        due(x, text, fault, text.lastIndexOf(piece));
    }

    // ---- "1 the first byte or token with which no text goes on"

    private static void tokensThatGoOn(int relations) {
        List<String> there = RELATIONS.subList(0, relations);
        List<String> part = new ArrayList<>(WORDS);
        part.addAll(there);
        String[] beforePart = {"", "all x man ", "some y house ", "least 2 z day ", "most 0 w man ", "not ", "and ", "or ",
            "if ", "and same x x ", "or not same x x ", "if all x day same x x ", "and and same x y same z w ",
            "all x man some x house not or ", " \n "};
        for (String before : beforePart) {
            goesOn(relations, before, part);
        }
        for (String before : new String[] {"all ", "some ", "least 3 ", "most 0012 ", "same ", "same x ", "not same y "}) {
            goesOn(relations, before, VARS);
        }
        for (String before : new String[] {"least ", "most ", "not least "}) {
            goesOn(relations, before, NUMBERS);
        }
        for (String before : new String[] {"all x ", "some w ", "least 1 y ", "most 9999 z "}) {
            goesOn(relations, before, KINDS);
        }
        // Without any RELATION the fault is at the token behind the word, not at the word itself (see NOTES.md).
        for (String before : new String[] {"tree ", "reach ", "and same x x tree ", "not reach "}) {
            goesOn(relations, before, there);
        }
        for (String before : new String[] {"same x x ", "not same z w ", "all x man same x x ", "or same x x same y y "}) {
            goesOn(relations, before, List.of());
        }
        int[] vars = {2, 1, 2, 2};
        for (int r = 0; r < relations; r++) {
            String name = RELATIONS.get(r);
            goesOn(relations, name + " ", VARS);
            goesOn(relations, name + " x ", vars[r] == 2 ? VARS : List.of());
            goesOn(relations, name + " x" + (vars[r] == 2 ? " y " : " "), List.of());
            goesOn(relations, "and " + name + " z" + (vars[r] == 2 ? " w " : " "), part);
            goesOn(relations, "tree " + name + " ", List.of());
            goesOn(relations, "reach " + name + " ", VARS);
            goesOn(relations, "reach " + name + " y ", VARS);
            goesOn(relations, "reach " + name + " y z ", List.of());
            goesOn(relations, "if tree " + name + " ", part);
            goesOn(relations, "if reach " + name + " x x ", part);
        }
    }

    /** Behind such a beginning these tokens are no fault 1 at their place, and all others are. */
    private static void goesOn(int relations, String before, List<String> allowed) {
        Set<String> all = new TreeSet<>(SENSELESS);
        all.addAll(WORDS);
        all.addAll(VARS);
        all.addAll(KINDS);
        all.addAll(RELATIONS);
        all.addAll(NUMBERS);
        for (String token : all) {
            VillageStories y = village(relations);
            Tape.guess(y, before + token);
            boolean isRefused = y.fault(0) == 1 && y.fault(1) == before.length();
            CHECK.due("of " + relations + " relations: '" + token + "' behind '" + before + "' goes on",
                    !isRefused, allowed.contains(token));
            VillageStories z = village(relations);
            Tape.guess(z, before + "\n  " + token + " #");
            int place = z.fault(1);
            CHECK.due("fault(0) of '" + token + "' and # behind '" + before + "'", z.fault(0), 1);
            CHECK.due("fault(1) of '" + token + "' and # behind '" + before + "'", place,
                    before.length() + 3 + (allowed.contains(token) ? token.length() + 1 : 0));
        }
    }

    /** A text that is cut before its last token has fault 1 at its end, with its blanks; one too much at itself. */
    private static void endsOfTexts() {
        VillageStories x = village(4);
        String[] texts = {"all x man some y man r x y", "least 2 x house s x", "most 1 x day all y man t x y",
            "and tree r or tree u not tree r", "all x man if reach r x x same x x",
            "all x house all y house all z man all w day and and u x y t w z if reach u y x r z z"};
        for (String text : texts) {
            right(x, text);
            for (int cut = 0; cut < text.length(); cut++) {
                if (text.charAt(cut) == ' ') {
                    due(x, text.substring(0, cut), 1, cut);
                    due(x, text.substring(0, cut + 1), 1, cut + 1);
                    due(x, text.substring(0, cut) + "\n \n", 1, cut + 3);
                    due(x, text.substring(0, cut) + " # " + text.substring(cut), 1, cut + 1);
                    due(x, text.substring(0, cut) + "#" + text.substring(cut), 1, cut);
                }
            }
            due(x, "", 1, 0);
            due(x, text + " x", 1, text.length() + 1);
            due(x, text + "\n" + text, 1, text.length() + 1);
            due(x, text + " 1", 1, text.length() + 1);
            due(x, text + "1", 1, text.length());
            due(x, text + "#", 1, text.length());
            due(x, "#" + text, 1, 0);
            due(x, "1" + text, 1, 0);
            right(x, text + " ");
            right(x, "\n" + text + "\n\n");
        }
        due(x, " ", 1, 1);
        due(x, "\n\n\n", 1, 3);
        due(x, " ".repeat(400), 1, 400);
    }

    // ---- "TOKENS, as long as they go, blanks (10, 32) between"

    private static void blanks() {
        VillageStories x = village(1);
        for (int sign = 0; sign < 256; sign++) {
            String text = "tree" + (char) sign + "r";
            boolean isLetter = sign >= 'a' && sign <= 'z';
            boolean isBlank = sign == 10 || sign == 32;
            due(x, text, isBlank ? 0 : 1, isBlank ? NONE : isLetter ? 0 : 4);
        }
        right(x, "tree  r");
        right(x, "tree \n\n r");
        right(x, "  all\nx\nman\nr\nx\nx  ");
        due(x, "treer", 1, 0);
        due(x, "allx man r x x", 1, 0);
        due(x, "all xman r x x", 1, 4);
        due(x, "all x manr x x", 1, 6);
        due(x, "all x man rx x", 1, 10);
        due(x, "all x man r xx", 1, 12);
        right(x, "least1x man r x x");
    }

    // ---- "NUMBERS, 1 to 4 digits"

    private static void numbers() {
        VillageStories x = village(1);
        for (String number : NUMBERS) {
            right(x, "least " + number + " x man r x x");
            right(x, "most " + number + " x man r x x");
        }
        due(x, "least 10000 x man r x x", 1, 10);
        due(x, "most 00000 x man r x x", 1, 9);
        due(x, "most 123456789 x man r x x", 1, 9);
        due(x, "least 1 1 x man r x x", 1, 8);
        due(x, "least -1 x man r x x", 1, 6);
        int[][] counts = {{0, 1, 0}, {1, 1, 0}, {2, 1, 0}, {3, 1, 1}, {4, 0, 1}, {10, 0, 1}, {1000, 0, 1}, {9999, 0, 1}};
        VillageStories y = village(0);
        y.size(0, 3);
        for (int[] count : counts) {
            for (String zeros : new String[] {"", "0", "00", "000"}) {
                if ((zeros + count[0]).length() <= 4) {
                    Tape.guess(y, "least " + zeros + count[0] + " x man same x x");
                    CHECK.due("least " + zeros + count[0] + " of three", y.so(NONE), count[1]);
                    Tape.guess(y, "most " + zeros + count[0] + " x man same x x");
                    CHECK.due("most " + zeros + count[0] + " of three", y.so(NONE), count[2]);
                }
            }
        }
    }

    // ---- "THE TAPE has at most 400 bytes"

    private static void bytesOfTheTape() {
        VillageStories x = village(1);
        for (int call = 1; call <= 20; call++) {
            CHECK.due("feed", x.feed(0x20202020, 0x20202020, 0x20202020, 0x20202020, 0x20202020), 20 * call);
        }
        CHECK.due("feed beyond 400", x.feed(0x20202020, 0x20202020, 0x20202020, 0x20202020, 0x20202020), NONE);
        CHECK.due("end(401)", x.end(401), NONE);
        CHECK.due("end(400)", x.end(400), 400);
        CHECK.due("end(394)", x.end(394), 394);
        CHECK.due("feed beyond 400", x.feed(0x74726565, 0x20722020, 0, 0, 0), NONE);
        CHECK.due("end(381)", x.end(381), 381);
        CHECK.due("feed, 401 would be there", x.feed(0x74726565, 0x20722020, 0, 0, 0), NONE);
        CHECK.due("end(382), nothing came", x.end(382), NONE);
        CHECK.due("end(380)", x.end(380), 380);
        CHECK.due("feed, 400 are there",
                x.feed(0x74726565, 0x20722020, 0x20202020, 0x20202020, 0x20202020), 400);
        CHECK.due("guess", x.guess(), 1);
        right(x, " ".repeat(394) + "tree r");
        due(x, " ".repeat(394) + "tree s", 1, 399);
        due(x, " ".repeat(395) + "tree ", 1, 400);
        due(x, " ".repeat(396) + "tree", 1, 400);
        for (int sign = 128; sign < 256; sign++) {
            int four = sign << 24 | sign << 16 | sign << 8 | sign;
            x.feed(four, four, four, four, four);
            CHECK.due("guess of bytes " + sign, x.guess(), NONE);
            CHECK.due("fault(1) of bytes " + sign, x.fault(1), 0);
        }
    }

    // ---- "2 a VAR that no all, some, least or most around it binds"

    private static void unbound() {
        VillageStories x = village(4);
        for (String one : VARS) {
            due(x, "s " + one, 2, 2);
            due(x, "same " + one + " " + one, 2, 5);
            for (String binder : new String[] {"all", "some", "least 2", "most 2"}) {
                right(x, binder + " " + one + " house s " + one);
                for (String other : VARS) {
                    String text = binder + " " + one + " house s " + other;
                    due(x, text, one.equals(other) ? 0 : 2, one.equals(other) ? NONE : text.length() - 1);
                    text = binder + " " + one + " house u " + one + " " + other;
                    due(x, text, one.equals(other) ? 0 : 2, one.equals(other) ? NONE : text.length() - 1);
                    text = binder + " " + one + " house u " + other + " " + one;
                    due(x, text, one.equals(other) ? 0 : 2, one.equals(other) ? NONE : text.length() - 3);
                    text = binder + " " + one + " house reach u " + one + " " + other;
                    due(x, text, one.equals(other) ? 0 : 2, one.equals(other) ? NONE : text.length() - 1);
                    text = binder + " " + one + " house same " + other + " " + one;
                    due(x, text, one.equals(other) ? 0 : 2, one.equals(other) ? NONE : text.length() - 3);
                }
            }
        }
        // What binds ends with its own PART.
        atLast(x, "and all x house s x s x", 2, "x");
        atLast(x, "or s x all x house s x", 2, "x all");
        atLast(x, "all y house and all x house s x s x", 2, "x");
        right(x, "all x house and all x house s x s x");
        right(x, "all x house and all y house u x y s x");
        atLast(x, "all x house and all y house u x y s y", 2, "y");
    }

    // ---- "3 a bound VAR that is not of the KIND that the RELATION has there"

    private static void wrongKinds() {
        VillageStories x = village(4);
        for (int kind = 0; kind < 3; kind++) {
            String bound = "all x " + KINDS.get(kind) + " ";
            int place = bound.length();
            due(x, bound + "s x", kind == 1 ? 0 : 3, kind == 1 ? NONE : place + 2);
            due(x, bound + "r x x", kind == 0 ? 0 : 3, kind == 0 ? NONE : place + 2);
            due(x, bound + "u x x", kind == 1 ? 0 : 3, kind == 1 ? NONE : place + 2);
            due(x, bound + "t x x", 3, kind == 2 ? place + 4 : place + 2);
            due(x, bound + "reach r x x", kind == 0 ? 0 : 3, kind == 0 ? NONE : place + 8);
            due(x, bound + "reach u x x", kind == 1 ? 0 : 3, kind == 1 ? NONE : place + 8);
            for (int other = 0; other < 3; other++) {
                String both = bound + "some y " + KINDS.get(other) + " ";
                int there = both.length();
                boolean isFirst = kind == 2;
                boolean isSecond = other == 0;
                due(x, both + "t x y", isFirst && isSecond ? 0 : 3,
                        isFirst && isSecond ? NONE : there + (isFirst ? 4 : 2));
                isFirst = kind == 0;
                due(x, both + "reach r x y", isFirst && isSecond ? 0 : 3,
                        isFirst && isSecond ? NONE : there + (isFirst ? 10 : 8));
            }
        }
        // The nearest that binds a VAR tells of what KIND it is.
        right(x, "all x man some x house s x");
        atLast(x, "all x house some x man s x", 3, "x");
        atLast(x, "all x house and some x man r x x r x x", 3, "x x");
        right(x, "all x house and some x man r x x s x");
    }

    // ---- "or, the second one of same, not of the first one's (if that is bound)"

    private static void sameKinds() {
        VillageStories x = village(4);
        for (int kind = 0; kind < 3; kind++) {
            right(x, "all x " + KINDS.get(kind) + " same x x");
            for (int other = 0; other < 3; other++) {
                String both = "all x " + KINDS.get(kind) + " some y " + KINDS.get(other) + " ";
                due(x, both + "same x y", kind == other ? 0 : 3, kind == other ? NONE : both.length() + 7);
                due(x, both + "same y x", kind == other ? 0 : 3, kind == other ? NONE : both.length() + 7);
                due(x, both + "same z x", 2, both.length() + 5);
                due(x, both + "same x z", 2, both.length() + 7);
                due(x, both + "same z w", 2, both.length() + 5);
            }
        }
    }

    // ---- "or a REL behind reach or tree that is not of two KINDS that are one; (a VAR of reach ..)"

    private static void reachAndTree() {
        VillageStories x = village(4);
        String[] names = {"r", "s", "t", "u"};
        for (int r = 0; r < 4; r++) {
            boolean isGood = r == 0 || r == 3;
            due(x, "tree " + names[r], isGood ? 0 : 3, isGood ? NONE : 5);
            due(x, "reach " + names[r] + " x y", isGood ? 2 : 3, isGood ? 8 : 6);
            for (String kind : KINDS) {
                String text = "all x " + kind + " reach " + names[r] + " x x";
                boolean fits = kind.equals(r == 0 ? "man" : "house");
                due(x, text, isGood && fits ? 0 : 3, !isGood ? text.length() - 5 : fits ? NONE : text.length() - 3);
            }
        }
        // Of a REL that isn't good no VAR is of a wrong KIND, but it may be unbound: that comes later by place.
        atLast(x, "all x day reach s x z", 3, "s x z");
        atLast(x, "all x day reach t z x", 3, "t z x");
        for (int first = 0; first < 3; first++) {
            for (int second = NONE; second < 3; second++) {
                VillageStories z = new VillageStories();
                z.relation(first, second);
                due(z, "tree r", first == second ? 0 : 3, first == second ? NONE : 5);
            }
        }
    }

    // ---- "4 the 41st PART, at its first token"

    private static void parts() {
        VillageStories x = village(4);
        right(x, "not ".repeat(39) + "tree r");
        due(x, "not ".repeat(40) + "tree r", 4, 160);
        due(x, "not ".repeat(41) + "tree r", 4, 160);
        due(x, "not ".repeat(60) + "tree r", 4, 160);
        String forty = "and ".repeat(19) + "tree r ".repeat(19) + "not tree r";
        CHECK.due("guess of forty", Tape.guess(x, forty), 40);
        CHECK.due("many(9)", x.many(9), 40);
        CHECK.due("guess of 41", Tape.guess(x, "not " + forty), NONE);
        CHECK.due("many(9): it stays", x.many(9), 40);
        due(x, "not " + forty, 4, 4 + forty.lastIndexOf("tree"));
        due(x, "\n  not   " + forty, 4, 9 + forty.lastIndexOf("tree"));
        String[] last = {"tree r", "all x man r x x", "some x house s x", "least 1 x man r x x", "most 1 x man r x x",
            "not tree r", "and tree r tree r", "or tree r tree r", "if tree r tree r", "same x x", "reach r x x",
            "tree s", "r x x", "s x"};
        for (String part : last) {
            due(x, "not ".repeat(40) + part, 4, 160);
        }
        String[] binders = {"all x man", "some x man", "least 1 x man", "most 1 x man"};
        for (String binder : binders) {
            due(x, binder + " " + "not ".repeat(38) + "r x x", 0, NONE);
            due(x, binder + " " + "not ".repeat(39) + "r x x", 4, binder.length() + 1 + 39 * 4);
            due(x, "not ".repeat(38) + binder + " r x x", 0, NONE);
            due(x, "not ".repeat(39) + binder + " r x x", 4, 39 * 4 + binder.length() + 1);
        }
        // A PART is counted where it begins, of two as much as of one.
        due(x, "and " + "not ".repeat(38) + "tree r tree r", 4, 4 + 38 * 4 + 7);
        due(x, "and tree r " + "not ".repeat(38) + "tree r", 4, 11 + 38 * 4);
        due(x, "and tree r " + "not ".repeat(37) + "tree r", 0, NONE);
    }

    // ---- "5 an all, some, least or most within four others (at its word)"

    private static void binders() {
        VillageStories x = village(1);
        String[] words = {"all ", "some ", "least 1 ", "most 1 "};
        for (int outer = 0; outer < 4; outer++) {
            String four = words[outer] + "x man " + words[(outer + 1) % 4] + "y man " + words[(outer + 2) % 4]
                    + "z man " + words[(outer + 3) % 4] + "w man ";
            right(x, four + "r x w");
            right(x, four + "not not tree r");
            for (String fifth : words) {
                due(x, four + fifth + "x man r x x", 5, four.length());
                due(x, four + "not " + fifth + "x man r x x", 5, four.length() + 4);
                due(x, four + "and r x x " + fifth + "x man r x x", 5, four.length() + 10);
                due(x, four + fifth + "x man " + fifth + "x man r x x", 5, four.length());
                due(x, "and " + four + "r x x " + fifth + "x man r x x", 0, NONE);
                due(x, "all x man and all y man all z man all w man r y z " + fifth + "y man r x y", 0, NONE);
            }
        }
        // One VAR may be bound four times; all four count.
        right(x, "all x man all x man all x man all x man r x x");
        due(x, "all x man all x man all x man all x man all x man r x x", 5, 40);
        right(x, "all x man all y man all z man and all w man r x w all w man r y w");
        due(x, "all x man all y man all z man and all w man r x w all w man all w man r y w", 5, 60);
    }

    // ---- "If there is none, the first by place, of one place the least"

    private static void which() {
        VillageStories x = village(4);
        // Fault 1 goes before all others, wherever it is.
        due(x, "s x #", 1, 4);
        due(x, "all x man s x x", 1, 14);
        due(x, "tree s #", 1, 7);
        due(x, "not ".repeat(41), 1, 164);
        due(x, "not ".repeat(41) + "tree r #", 1, 171);
        String four = "all x man all y man all z man all w man ";
        due(x, four + "all x man r x x x", 1, four.length() + 16);
        due(x, four + "all x man", 1, four.length() + 9);
        // 2 and 3, in either order.
        due(x, "all x man r y x", 2, 12);
        due(x, "all x house r y x", 2, 14);
        due(x, "all x house r x y", 3, 14);
        due(x, "and s x tree s", 2, 6);
        due(x, "and tree s s x", 3, 9);
        due(x, "reach s x y", 3, 6);
        // 2 or 3 before or behind the 41st PART.
        due(x, "and s x " + "not ".repeat(40) + "tree r", 2, 6);
        due(x, "and tree s " + "not ".repeat(40) + "tree r", 3, 9);
        due(x, "and " + "not ".repeat(39) + "tree s tree s", 4, 4 + 39 * 4);
        due(x, "and " + "not ".repeat(38) + "tree s tree s", 3, 4 + 38 * 4 + 5);
        due(x, "and " + "not ".repeat(38) + "s y tree s", 2, 4 + 38 * 4 + 2);
        // 5 with 2, 3 and 4.
        due(x, four + "and s x all x house s x", 3, four.length() + 6);
        due(x, four + "and all x house s x s x", 5, four.length() + 4);
        String three = "all x man all y man all z man ";
        due(x, three + "and r x w all w man all w man r x x", 2, three.length() + 8);
        due(x, three + "and all w man all w man r x x r x w", 5, three.length() + 14);
        due(x, four + "not ".repeat(35) + "all x man r x x", 5, four.length() + 140);
        due(x, four + "not ".repeat(36) + "all x man r x x", 4, four.length() + 144);
        due(x, four + "not ".repeat(36) + "not all x man r x x", 4, four.length() + 144);
        due(x, four + "all x man " + "not ".repeat(40) + "r x x", 5, four.length());
    }

    // ---- what fault() answers of the latest, and what stays

    private static void told() {
        VillageStories x = village(4);
        CHECK.due("none is told yet", x.fault(0), 0);
        CHECK.due("none is told yet", x.fault(1), NONE);
        Tape.guess(x, "tree r");
        Tape.guess(x, "s x");
        CHECK.due("fault of the guess", x.fault(0), 2);
        CHECK.due("its place", x.fault(1), 2);
        x.day(3);
        x.size(0, 3);
        x.relation(0, 0);
        x.known(0, 0, 0, true);
        x.feed(1, 2, 3, 4, 5);
        x.end(0);
        CHECK.due("it stays", x.fault(0), 2);
        CHECK.due("its place, too", x.fault(1), 2);
        CHECK.due("the guess stays", x.many(9), 1);
        CHECK.due("a story without a fault", Tape.story(x, "tree u"), 0);
        CHECK.due("it is the latest", x.fault(0), 0);
        CHECK.due("no place", x.fault(1), NONE);
        CHECK.due("an empty tape as a story", x.story(), NONE);
        CHECK.due("fault 1", x.fault(0), 1);
        CHECK.due("at the end", x.fault(1), 0);
        CHECK.due("an empty tape as a guess", x.guess(), NONE);
        CHECK.due("the guess stays", x.many(9), 1);
        for (int story = 1; story < 8; story++) {
            CHECK.due("story", Tape.story(x, "tree u"), story);
        }
        for (String text : Arrays.asList("tree u", "tree s", "#", "", "not ".repeat(50))) {
            Tape.guess(x, "s x");
            CHECK.due("a ninth, '" + text + "'", Tape.story(x, text), -2);
            CHECK.due("fault 0, no text is read", x.fault(0), 0);
            CHECK.due("no place", x.fault(1), NONE);
            CHECK.due("the tape is empty", x.end(1), NONE);
            CHECK.due("eight stay", x.many(4), 8);
        }
        CHECK.due("a guess goes on", Tape.guess(x, "not tree u"), 2);
        CHECK.due("a guess has faults still", Tape.guess(x, "tree s"), NONE);
        CHECK.due("its fault", x.fault(0), 3);
    }
}
