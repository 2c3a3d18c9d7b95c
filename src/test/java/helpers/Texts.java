import java.util.ArrayList;
import java.util.List;
import java.util.Random;

/** Makes texts at random: most of them right, some with a fault, few of no sense at all. */
final class Texts {
    private static final String[] KINDS = {"man", "house", "day"};
    private static final String[] VARIABLES = {"x", "y", "z", "w"};
    private static final String[] RELATIONS = {"r", "s", "t", "u"};
    private static final String[] ANY = {
        "all", "some", "least", "most", "not", "and", "or", "if", "same", "reach", "tree", "r", "s", "t", "u",
        "x", "y", "z", "w", "man", "house", "day", "0", "1", "2", "3", "12345", "0002", "dog", "al", "#", "A", "mann"
    };

    private final Random random;
    private final List<int[]> relations;
    private final List<String> tokens = new ArrayList<>();

    Texts(Random random, List<int[]> relations) {
        this.random = random;
        this.relations = relations;
    }

    private boolean seldom(int one) {
        return random.nextInt(one) == 0;
    }

    private String any(String[] list) {
        return list[random.nextInt(list.length)];
    }

    String text() {
        if (seldom(40)) {
            return chain();
        }
        if (seldom(40)) {
            return deep();
        }
        part(new int[4], 0, 3 + random.nextInt(12));
        if (seldom(6)) {
            int at = random.nextInt(tokens.size());
            switch (random.nextInt(4)) {
                case 0:
                    tokens.remove(at);
                    break;
                case 1:
                    tokens.add(at, any(ANY));
                    break;
                case 2:
                    tokens.add(any(ANY));
                    break;
                default:
                    tokens.set(at, any(ANY));
                    break;
            }
        }
        return joined();
    }

    /** About forty parts, one within the other. */
    private String chain() {
        int parts = 36 + random.nextInt(9);
        int pairs = seldom(2) ? 0 : random.nextInt(12);
        int nots = parts - 2 - 2 * pairs;
        tokens.add(seldom(8) ? "all y man" : "all x man");
        int leaves = 1;
        while (nots > 0 || pairs > 0) {
            if (pairs > 0 && (nots <= 0 || seldom(2))) {
                tokens.add(any(new String[] {"and", "or", "if"}));
                pairs--;
                leaves++;
            } else {
                tokens.add(seldom(30) ? "some z day" : "not");
                nots--;
            }
        }
        for (; leaves > 0; leaves--) {
            tokens.add(any(new String[] {"same x x", "same x x", "tree r", "r x", "r x x"}));
        }
        return joined();
    }

    /** Three to six binders, each within the others. */
    private String deep() {
        int[] bound = new int[4];
        int count = 3 + random.nextInt(4);
        for (int at = 0; at < count; at++) {
            int variable = random.nextInt(4);
            int kind = random.nextInt(3);
            tokens.add(any(new String[] {"all", "some", "least 2", "most 1"}));
            tokens.add(VARIABLES[variable]);
            tokens.add(KINDS[kind]);
            bound[variable] = 1 + kind;
            if (seldom(3)) {
                tokens.add("not");
            }
        }
        leaf(bound);
        return joined();
    }

    private String joined() {
        StringBuilder text = new StringBuilder();
        for (String token : tokens) {
            boolean canGlue = text.length() > 0 && isDigit(text.charAt(text.length() - 1)) != isDigit(token.charAt(0));
            if (!(canGlue && seldom(4))) {
                text.append(text.length() == 0 ? "" : seldom(12) ? "\n" : seldom(12) ? "  " : " ");
            }
            text.append(token);
        }
        if (seldom(6)) {
            text.append(seldom(2) ? "\n " : "   ");
        }
        if (seldom(30)) {
            text.insert(random.nextInt(text.length() + 1), (char) random.nextInt(256));
        }
        if (text.length() > 400) {
            text.setLength(400);
        }
        return text.toString();
    }

    private static boolean isDigit(char sign) {
        return sign >= '0' && sign <= '9';
    }

    /** Of the four VARS each is 0 or 1 + its kind. */
    private void part(int[] bound, int binders, int room) {
        int chance = random.nextInt(100);
        if (room <= 1 || binders > 0 && chance < 25) {
            leaf(bound);
        } else if (chance < (binders == 0 ? 85 : 55) && (binders < 4 || seldom(30))) {
            binder(bound, binders, room);
        } else if (chance < 70) {
            tokens.add("not");
            part(bound, binders, room - 1);
        } else {
            tokens.add(any(new String[] {"and", "or", "if"}));
            part(bound, binders, (room - 1) / 2);
            part(bound, binders, (room - 1) / 2);
        }
    }

    private void binder(int[] bound, int binders, int room) {
        String word = any(new String[] {"all", "all", "some", "some", "least", "most"});
        tokens.add(word);
        if (word.equals("least") || word.equals("most")) {
            tokens.add(any(new String[] {"0", "1", "1", "2", "2", "3", "4", "0001", "9999"}));
        }
        int free = 0;
        while (free < 3 && bound[free] != 0) {
            free++;
        }
        int variable = seldom(6) ? random.nextInt(4) : free;
        int kind = random.nextInt(3);
        if (!relations.isEmpty() && !seldom(4)) {
            int[] kinds = relations.get(random.nextInt(relations.size()));
            kind = kinds[1] < 0 || seldom(2) ? kinds[0] : kinds[1];
        }
        tokens.add(VARIABLES[variable]);
        tokens.add(KINDS[kind]);
        int[] inner = bound.clone();
        inner[variable] = 1 + kind;
        part(inner, binders + 1, room - 1);
    }

    private String variable(int[] bound, int kind) {
        List<String> fitting = new ArrayList<>();
        for (int at = 0; at < 4; at++) {
            if (bound[at] != 0 && (kind < 0 || bound[at] == 1 + kind)) {
                fitting.add(VARIABLES[at]);
            }
        }
        if (fitting.isEmpty() || seldom(30)) {
            return any(VARIABLES);
        }
        return fitting.get(random.nextInt(fitting.size()));
    }

    private boolean canBe(int[] bound, int kind) {
        for (int has : bound) {
            if (has == 1 + kind) {
                return true;
            }
        }
        return kind < 0;
    }

    private void leaf(int[] bound) {
        for (int tries = 0; tries < 6 && !relations.isEmpty(); tries++) {
            int relation = random.nextInt(relations.size());
            int[] kinds = relations.get(relation);
            if (canBe(bound, kinds[0]) && canBe(bound, kinds[1])) {
                if (kinds[0] == kinds[1] && seldom(3) || seldom(40)) {
                    tokens.add(seldom(3) ? "tree" : "reach");
                    tokens.add(RELATIONS[relation]);
                    if (tokens.get(tokens.size() - 2).equals("tree")) {
                        return;
                    }
                } else {
                    tokens.add(RELATIONS[relation]);
                }
                tokens.add(variable(bound, kinds[0]));
                if (kinds[1] >= 0) {
                    tokens.add(variable(bound, kinds[1]));
                }
                return;
            }
        }
        String one = variable(bound, -1);
        int kind = bound[List.of(VARIABLES).indexOf(one)] - 1;
        tokens.add("same");
        tokens.add(one);
        tokens.add(variable(bound, kind));
    }
}
