import java.util.ArrayList;
import java.util.Arrays;
import java.util.Collections;
import java.util.Comparator;
import java.util.HashMap;
import java.util.List;
import java.util.Map;

/**
 * The document read a second time, as plainly as can be: one world after the other, all orders, all
 * sets of stories. It shares nothing with the program, and is slow.
 */
final class Oracle {
    private static final List<String> KINDS = List.of("man", "house", "day");
    private static final List<String> BINDERS = List.of("all", "some", "least", "most");
    private static final int NONE = -1;

    // ---------------------------------------------------------------- texts

    private static final class Token {
        final char type;
        final String sign;
        final int place;

        Token(char type, String sign, int place) {
            this.type = type;
            this.sign = sign;
            this.place = place;
        }
    }

    private static final class Part {
        String word = "";
        int number;
        int kind;
        int relation = NONE;
        String a = "";
        String b = "";
        int place;
        int relationPlace;
        int aPlace;
        int bPlace;
        final List<Part> inside = new ArrayList<>();

        int parts() {
            int sum = 1;
            for (Part part : inside) {
                sum += part.parts();
            }
            return sum;
        }
    }

    private static final class Refused extends RuntimeException {
        private static final long serialVersionUID = 1L;
        final int place;

        Refused(int place) {
            this.place = place;
        }
    }

    private static List<Token> tokens(int[] bytes) {
        List<Token> list = new ArrayList<>();
        int at = 0;
        while (at < bytes.length) {
            int sign = bytes[at];
            int from = at;
            if (sign == 10 || sign == 32) {
                at++;
            } else if (sign >= 'a' && sign <= 'z') {
                while (at < bytes.length && bytes[at] >= 'a' && bytes[at] <= 'z') {
                    at++;
                }
                list.add(new Token('w', string(bytes, from, at), from));
            } else if (sign >= '0' && sign <= '9') {
                while (at < bytes.length && at < from + 4 && bytes[at] >= '0' && bytes[at] <= '9') {
                    at++;
                }
                list.add(new Token('n', string(bytes, from, at), from));
            } else {
                at++;
                list.add(new Token('?', "", from));
            }
        }
        list.add(new Token('e', "", bytes.length));
        return list;
    }

    private static String string(int[] bytes, int from, int to) {
        StringBuilder builder = new StringBuilder();
        for (int at = from; at < to; at++) {
            builder.append((char) bytes[at]);
        }
        return builder.toString();
    }

    private final class Parser {
        final List<Token> list;
        int at = 0;

        Parser(int[] bytes) {
            list = tokens(bytes);
        }

        Token now() {
            return list.get(at);
        }

        Part text() {
            Part part = part();
            if (now().type != 'e') {
                throw new Refused(now().place);
            }
            return part;
        }

        Token word(List<String> allowed) {
            Token token = now();
            if (token.type != 'w' || !allowed.contains(token.sign)) {
                throw new Refused(token.place);
            }
            at++;
            return token;
        }

        List<String> relationNames() {
            return List.of("r", "s", "t", "u").subList(0, now.kinds.size());
        }

        Part part() {
            List<String> first = new ArrayList<>(List.of("all", "some", "least", "most", "not", "and", "or", "if",
                    "same", "reach", "tree"));
            first.addAll(relationNames());
            Token head = word(first);
            Part part = new Part();
            part.word = head.sign;
            part.place = head.place;
            if (BINDERS.contains(head.sign)) {
                if (head.sign.equals("least") || head.sign.equals("most")) {
                    if (now().type != 'n') {
                        throw new Refused(now().place);
                    }
                    part.number = Integer.parseInt(now().sign);
                    at++;
                }
                part.a = word(List.of("x", "y", "z", "w")).sign;
                part.kind = KINDS.indexOf(word(KINDS).sign);
                part.inside.add(part());
            } else if (head.sign.equals("not")) {
                part.inside.add(part());
            } else if (List.of("and", "or", "if").contains(head.sign)) {
                part.inside.add(part());
                part.inside.add(part());
            } else if (head.sign.equals("same")) {
                variables(part, 2);
            } else if (head.sign.equals("reach") || head.sign.equals("tree")) {
                Token relation = word(relationNames());
                part.relation = relationNames().indexOf(relation.sign);
                part.relationPlace = relation.place;
                variables(part, head.sign.equals("reach") ? 2 : 0);
            } else {
                part.word = "fact";
                part.relation = relationNames().indexOf(head.sign);
                variables(part, now.kinds.get(part.relation)[1] == NONE ? 1 : 2);
            }
            return part;
        }

        void variables(Part part, int count) {
            if (count > 0) {
                Token token = word(List.of("x", "y", "z", "w"));
                part.a = token.sign;
                part.aPlace = token.place;
            }
            if (count > 1) {
                Token token = word(List.of("x", "y", "z", "w"));
                part.b = token.sign;
                part.bPlace = token.place;
            }
        }
    }

    /** All faults 2 .. 5 of a text, each with its place before it. */
    private void findFaults(Part part, Map<String, Integer> bound, int binders, int[] count, List<int[]> found) {
        count[0]++;
        if (count[0] == 41) {
            found.add(new int[] {part.place, 4});
        }
        if (BINDERS.contains(part.word)) {
            if (binders >= 4) {
                found.add(new int[] {part.place, 5});
            }
            Map<String, Integer> inner = new HashMap<>(bound);
            inner.put(part.a, part.kind);
            findFaults(part.inside.get(0), inner, binders + 1, count, found);
            return;
        }
        int[] kinds = part.relation == NONE ? new int[] {NONE, NONE} : now.kinds.get(part.relation);
        boolean isGood = kinds[0] == kinds[1];
        if (part.word.equals("reach") || part.word.equals("tree")) {
            if (!isGood) {
                found.add(new int[] {part.relationPlace, 3});
                kinds = new int[] {NONE, NONE};
            }
        }
        int first = kinds[0];
        int second = kinds[1];
        if (part.word.equals("same")) {
            second = bound.getOrDefault(part.a, NONE);
        }
        checkVariable(part.a, part.aPlace, first, bound, found);
        checkVariable(part.b, part.bPlace, second, bound, found);
        for (Part inner : part.inside) {
            findFaults(inner, bound, binders, count, found);
        }
    }

    private static void checkVariable(String name, int place, int kind, Map<String, Integer> bound, List<int[]> found) {
        if (name.isEmpty()) {
            return;
        }
        if (!bound.containsKey(name)) {
            found.add(new int[] {place, 2});
        } else if (kind != NONE && bound.get(name) != kind) {
            found.add(new int[] {place, 3});
        }
    }

    private Part read() {
        int[] bytes = Arrays.copyOf(now.tape, now.taped);
        now.taped = 0;
        now.fault = 0;
        now.faultPlace = NONE;
        Part part;
        try {
            part = new Parser(bytes).text();
        } catch (Refused refused) {
            now.fault = 1;
            now.faultPlace = refused.place;
            return null;
        }
        List<int[]> found = new ArrayList<>();
        findFaults(part, new HashMap<>(), 0, new int[1], found);
        found.sort(Comparator.<int[]>comparingInt(f -> f[0]).thenComparingInt(f -> f[1]));
        if (!found.isEmpty()) {
            now.fault = found.get(0)[1];
            now.faultPlace = found.get(0)[0];
            return null;
        }
        return part;
    }

    // ---------------------------------------------------------------- what is told

    private static final class State {
        int[] sizes = {2, 2, 2};
        List<int[]> kinds = new ArrayList<>();
        Map<List<Integer>, Boolean> world = new HashMap<>();
        Map<Integer, Map<List<Integer>, Boolean>> kept = new HashMap<>();
        int[] tape = new int[400];
        int taped = 0;
        int fault = 0;
        int faultPlace = NONE;
        List<Part> stories = new ArrayList<>();
        List<Integer> toldOn = new ArrayList<>();
        List<Integer> struckOn = new ArrayList<>();
        Part guess = null;
        int day = 0;
        int view = NONE;
        /** relation, i, j, is, day. */
        List<int[]> known = new ArrayList<>();

        State copied() {
            State copy = new State();
            copy.sizes = sizes.clone();
            copy.kinds = new ArrayList<>(kinds);
            copy.world = new HashMap<>(world);
            copy.kept = new HashMap<>();
            kept.forEach((place, old) -> copy.kept.put(place, new HashMap<>(old)));
            copy.tape = tape.clone();
            copy.taped = taped;
            copy.fault = fault;
            copy.faultPlace = faultPlace;
            copy.stories = new ArrayList<>(stories);
            copy.toldOn = new ArrayList<>(toldOn);
            copy.struckOn = new ArrayList<>(struckOn);
            copy.guess = guess;
            copy.day = day;
            copy.view = view;
            copy.known = new ArrayList<>(known);
            return copy;
        }
    }

    private State now = new State();
    private final State[] images = new State[3];

    /** All facts in their order: relation, i, j (NONE of one kind). */
    private List<List<Integer>> factList(int[] sizes) {
        List<List<Integer>> list = new ArrayList<>();
        for (int r = 0; r < now.kinds.size(); r++) {
            int[] kinds = now.kinds.get(r);
            for (int i = 0; i < sizes[kinds[0]]; i++) {
                if (kinds[1] == NONE) {
                    list.add(List.of(r, i, NONE));
                } else {
                    for (int j = 0; j < sizes[kinds[1]]; j++) {
                        list.add(List.of(r, i, j));
                    }
                }
            }
        }
        return list;
    }

    private List<List<Integer>> factList() {
        return factList(now.sizes);
    }

    private List<Integer> factOf(int relation, int i, int j) {
        if (relation < 0 || relation >= now.kinds.size()) {
            return null;
        }
        List<Integer> fact = List.of(relation, i, now.kinds.get(relation)[1] == NONE ? NONE : j);
        return factList().contains(fact) ? fact : null;
    }

    private void clearWorlds() {
        now.world = new HashMap<>();
        for (List<Integer> fact : factList()) {
            now.world.put(fact, false);
        }
        now.kept.clear();
    }

    // ---------------------------------------------------------------- meaning

    private boolean isSo(Part part, Map<List<Integer>, Boolean> world, int[] sizes, Map<String, Integer> chosen) {
        switch (part.word) {
            case "all":
            case "some":
            case "least":
            case "most": {
                int count = 0;
                for (int value = 0; value < sizes[part.kind]; value++) {
                    Map<String, Integer> inner = new HashMap<>(chosen);
                    inner.put(part.a, value);
                    if (isSo(part.inside.get(0), world, sizes, inner)) {
                        count++;
                    }
                }
                if (part.word.equals("all")) {
                    return count == sizes[part.kind];
                }
                if (part.word.equals("some")) {
                    return count > 0;
                }
                return part.word.equals("least") ? count >= part.number : count <= part.number;
            }
            case "not":
                return !isSo(part.inside.get(0), world, sizes, chosen);
            case "and":
                return isSo(part.inside.get(0), world, sizes, chosen) & isSo(part.inside.get(1), world, sizes, chosen);
            case "or":
                return isSo(part.inside.get(0), world, sizes, chosen) | isSo(part.inside.get(1), world, sizes, chosen);
            case "if":
                return !isSo(part.inside.get(0), world, sizes, chosen) | isSo(part.inside.get(1), world, sizes, chosen);
            case "same":
                return chosen.get(part.a).intValue() == chosen.get(part.b).intValue();
            case "reach":
                return reaches(part.relation, world, sizes, chosen.get(part.a), chosen.get(part.b));
            case "tree": {
                int size = sizes[now.kinds.get(part.relation)[0]];
                for (int i = 0; i < size; i++) {
                    int seconds = 0;
                    for (int j = 0; j < size; j++) {
                        seconds += world.get(List.of(part.relation, i, j)) ? 1 : 0;
                    }
                    if (seconds > 1 || reaches(part.relation, world, sizes, i, i)) {
                        return false;
                    }
                }
                return true;
            }
            default: {
                int j = part.b.isEmpty() ? NONE : chosen.get(part.b);
                return world.get(List.of(part.relation, chosen.get(part.a), j));
            }
        }
    }

    private boolean reaches(int relation, Map<List<Integer>, Boolean> world, int[] sizes, int from, int to) {
        int size = sizes[now.kinds.get(relation)[0]];
        boolean[] met = new boolean[size];
        List<Integer> open = new ArrayList<>(List.of(from));
        while (!open.isEmpty()) {
            int at = open.remove(open.size() - 1);
            for (int next = 0; next < size; next++) {
                if (world.get(List.of(relation, at, next)) && !met[next]) {
                    met[next] = true;
                    open.add(next);
                }
            }
        }
        return met[to];
    }

    // ---------------------------------------------------------------- worlds

    private List<Integer> viewed() {
        int day = now.view == NONE ? now.day : now.view;
        List<Integer> list = new ArrayList<>();
        for (int s = 0; s < now.stories.size(); s++) {
            if (now.toldOn.get(s) <= day && (now.struckOn.get(s) == NONE || now.struckOn.get(s) > day)) {
                list.add(s);
            }
        }
        return list;
    }

    private Map<List<Integer>, Boolean> knownNow() {
        int day = now.view == NONE ? now.day : now.view;
        Map<List<Integer>, Boolean> map = new HashMap<>();
        for (int[] told : now.known) {
            if (told[4] <= day) {
                map.put(List.of(told[0], told[1], told[2]), told[3] == 1);
            }
        }
        return map;
    }

    private boolean canTell() {
        return factList().size() <= 12;
    }

    /** All that the facts can be, by rows, as they are known if that counts. */
    private List<Map<List<Integer>, Boolean>> possible(int[] sizes, boolean knownCounts) {
        List<List<Integer>> facts = factList(sizes);
        Map<List<Integer>, Boolean> known = knownCounts ? knownNow() : new HashMap<>();
        List<Map<List<Integer>, Boolean>> list = new ArrayList<>();
        list.add(new HashMap<>());
        for (List<Integer> fact : facts) {
            List<Map<List<Integer>, Boolean>> longer = new ArrayList<>();
            for (Map<List<Integer>, Boolean> world : list) {
                for (boolean is : new boolean[] {false, true}) {
                    if (!known.containsKey(fact) || known.get(fact) == is) {
                        Map<List<Integer>, Boolean> more = new HashMap<>(world);
                        more.put(fact, is);
                        longer.add(more);
                    }
                }
            }
            list = longer;
        }
        return list;
    }

    private List<Map<List<Integer>, Boolean>> worldsOf(List<Integer> stories) {
        List<Map<List<Integer>, Boolean>> list = new ArrayList<>();
        for (Map<List<Integer>, Boolean> world : possible(now.sizes, true)) {
            if (allSo(stories, world, now.sizes)) {
                list.add(world);
            }
        }
        return list;
    }

    private boolean allSo(List<Integer> stories, Map<List<Integer>, Boolean> world, int[] sizes) {
        for (int s : stories) {
            if (!isSo(now.stories.get(s), world, sizes, new HashMap<>())) {
                return false;
            }
        }
        return true;
    }

    private String row(Map<List<Integer>, Boolean> world) {
        StringBuilder row = new StringBuilder();
        for (List<Integer> fact : factList()) {
            row.append(world.get(fact) ? '1' : '0');
        }
        return row.toString();
    }

    private static List<List<Integer>> orders(int size) {
        List<List<Integer>> list = new ArrayList<>();
        if (size == 0) {
            list.add(new ArrayList<>());
            return list;
        }
        for (List<Integer> fewer : orders(size - 1)) {
            for (int at = 0; at <= fewer.size(); at++) {
                List<Integer> more = new ArrayList<>(fewer);
                more.add(at, size - 1);
                list.add(more);
            }
        }
        return list;
    }

    /** All that a world is by other numbers. */
    private List<Map<List<Integer>, Boolean>> others(Map<List<Integer>, Boolean> world) {
        List<Map<List<Integer>, Boolean>> list = new ArrayList<>();
        List<List<Integer>> facts = factList();
        for (List<Integer> men : orders(now.sizes[0])) {
            for (List<Integer> houses : orders(now.sizes[1])) {
                for (List<Integer> days : orders(now.sizes[2])) {
                    List<List<Integer>> by = List.of(men, houses, days);
                    Map<List<Integer>, Boolean> other = new HashMap<>();
                    for (List<Integer> fact : facts) {
                        int[] kinds = now.kinds.get(fact.get(0));
                        int i = by.get(kinds[0]).get(fact.get(1));
                        int j = kinds[1] == NONE ? NONE : by.get(kinds[1]).get(fact.get(2));
                        other.put(List.of(fact.get(0), i, j), world.get(fact));
                    }
                    list.add(other);
                }
            }
        }
        return list;
    }

    private Map<List<Integer>, Boolean> leastOther(Map<List<Integer>, Boolean> world) {
        return Collections.min(others(world), Comparator.comparing(this::row));
    }

    private List<Map<List<Integer>, Boolean>> formList() {
        List<Map<List<Integer>, Boolean>> list = new ArrayList<>();
        for (Map<List<Integer>, Boolean> world : worldsOf(viewed())) {
            if (row(world).equals(row(leastOther(world)))) {
                list.add(world);
            }
        }
        list.sort(Comparator.comparing(this::row));
        return list;
    }

    private int differing(Map<List<Integer>, Boolean> one, Map<List<Integer>, Boolean> other) {
        int count = 0;
        for (List<Integer> fact : factList()) {
            count += one.get(fact).equals(other.get(fact)) ? 0 : 1;
        }
        return count;
    }

    /** All sets of the stories, the fewest first, of as many the least row first. */
    private static List<List<Integer>> sets(List<Integer> stories) {
        List<List<Integer>> list = new ArrayList<>();
        list.add(new ArrayList<>());
        for (int story : stories) {
            for (List<Integer> set : new ArrayList<>(list)) {
                List<Integer> more = new ArrayList<>(set);
                more.add(story);
                list.add(more);
            }
        }
        list.sort((one, other) -> {
            if (one.size() != other.size()) {
                return one.size() - other.size();
            }
            for (int at = 0; at < one.size(); at++) {
                if (!one.get(at).equals(other.get(at))) {
                    return one.get(at) - other.get(at);
                }
            }
            return 0;
        });
        return list;
    }

    private static int at(List<Integer> list, int k) {
        return k >= 0 && k < list.size() ? list.get(k) : NONE;
    }

    private boolean distinguished(List<Map<List<Integer>, Boolean>> left, int questions) {
        if (left.size() <= 1) {
            return true;
        }
        if (questions == 0) {
            return false;
        }
        for (List<Integer> fact : factList()) {
            List<Map<List<Integer>, Boolean>> yes = new ArrayList<>();
            List<Map<List<Integer>, Boolean>> no = new ArrayList<>();
            for (Map<List<Integer>, Boolean> world : left) {
                (world.get(fact) ? yes : no).add(world);
            }
            if (distinguished(yes, questions - 1) && distinguished(no, questions - 1)) {
                return true;
            }
        }
        return false;
    }

    // ---------------------------------------------------------------- the face

    boolean size(int kind, int size) {
        if (kind < 0 || kind > 2 || size < 1 || size > 3 || now.sizes[kind] == size) {
            return false;
        }
        now.sizes[kind] = size;
        clearWorlds();
        return true;
    }

    int relation(int first, int second) {
        if (now.kinds.size() == 4 || first < 0 || first > 2 || second < -1 || second > 2) {
            return NONE;
        }
        now.kinds.add(new int[] {first, second});
        clearWorlds();
        return now.kinds.size() - 1;
    }

    int facts() {
        return factList().size();
    }

    boolean tell(int relation, int i, int j, boolean is) {
        List<Integer> fact = factOf(relation, i, j);
        if (fact == null || now.world.get(fact) == is) {
            return false;
        }
        now.world.put(fact, is);
        return true;
    }

    int fact(int relation, int i, int j) {
        List<Integer> fact = factOf(relation, i, j);
        return fact == null ? NONE : now.world.get(fact) ? 1 : 0;
    }

    boolean known(int relation, int i, int j, boolean is) {
        if (now.known.size() == 40 || relation < 0 || relation >= now.kinds.size() || i < 0 || i > 2) {
            return false;
        }
        boolean isOne = now.kinds.get(relation)[1] == NONE;
        if (!isOne && (j < 0 || j > 2)) {
            return false;
        }
        now.known.add(new int[] {relation, i, isOne ? NONE : j, is ? 1 : 0, now.day});
        return true;
    }

    boolean keep(int place) {
        if (place < 0 || place > 3) {
            return false;
        }
        now.kept.put(place, new HashMap<>(now.world));
        return true;
    }

    int apart(int place) {
        if (!now.kept.containsKey(place) || !canTell()) {
            return NONE;
        }
        int fewest = Integer.MAX_VALUE;
        for (Map<List<Integer>, Boolean> other : others(now.kept.get(place))) {
            fewest = Math.min(fewest, differing(now.world, other));
        }
        return fewest;
    }

    int feed(int a, int b, int c, int d, int e) {
        if (now.taped > 380) {
            return NONE;
        }
        for (int number : new int[] {a, b, c, d, e}) {
            now.tape[now.taped++] = number >>> 24;
            now.tape[now.taped++] = number >>> 16 & 255;
            now.tape[now.taped++] = number >>> 8 & 255;
            now.tape[now.taped++] = number & 255;
        }
        return now.taped;
    }

    int end(int n) {
        if (n < 0 || n > now.taped) {
            return NONE;
        }
        now.taped = n;
        return n;
    }

    int story() {
        if (now.stories.size() == 8) {
            now.taped = 0;
            now.fault = 0;
            now.faultPlace = NONE;
            return -2;
        }
        Part part = read();
        if (part == null) {
            return NONE;
        }
        now.stories.add(part);
        now.toldOn.add(now.day);
        now.struckOn.add(NONE);
        return now.stories.size() - 1;
    }

    int guess() {
        Part part = read();
        if (part == null) {
            return NONE;
        }
        now.guess = part;
        return part.parts();
    }

    int fault(int what) {
        return what == 0 ? now.fault : what == 1 ? now.faultPlace : NONE;
    }

    boolean strike(int story) {
        if (story < 0 || story >= now.stories.size() || now.struckOn.get(story) != NONE) {
            return false;
        }
        now.struckOn.set(story, now.day);
        return true;
    }

    boolean day(int day) {
        if (day < now.day || day > 999) {
            return false;
        }
        now.day = day;
        return true;
    }

    boolean view(int day) {
        if (day != NONE && (day < 0 || day > now.day)) {
            return false;
        }
        now.view = day;
        return true;
    }

    int so(int story) {
        if (story == NONE && now.guess != null) {
            return isSo(now.guess, now.world, now.sizes, new HashMap<>()) ? 1 : 0;
        }
        if (story < 0 || story >= now.stories.size()) {
            return NONE;
        }
        return isSo(now.stories.get(story), now.world, now.sizes, new HashMap<>()) ? 1 : 0;
    }

    int breaks(int story, int k) {
        if (so(story) != 0 || story == NONE) {
            return NONE;
        }
        Part part = now.stories.get(story);
        Map<String, Integer> chosen = new HashMap<>();
        List<Integer> row = new ArrayList<>();
        while (part.word.equals("all")) {
            // The least value with which the rest is not so begins the least row.
            for (int value = 0; ; value++) {
                Map<String, Integer> tried = new HashMap<>(chosen);
                tried.put(part.a, value);
                if (!isSo(part.inside.get(0), now.world, now.sizes, tried)) {
                    chosen = tried;
                    row.add(value);
                    break;
                }
            }
            part = part.inside.get(0);
        }
        return at(row, k);
    }

    int worlds() {
        return canTell() ? worldsOf(viewed()).size() : NONE;
    }

    int forms() {
        return canTell() ? formList().size() : NONE;
    }

    boolean form(int k) {
        if (!canTell() || k < 0 || k >= formList().size()) {
            return false;
        }
        now.world = new HashMap<>(formList().get(k));
        return true;
    }

    boolean name() {
        if (!canTell()) {
            return false;
        }
        Map<List<Integer>, Boolean> least = leastOther(now.world);
        boolean changed = !least.equals(now.world);
        now.world = least;
        return changed;
    }

    int least(int kind) {
        if (kind < 0 || kind > 2) {
            return NONE;
        }
        List<int[]> all = new ArrayList<>();
        for (int men = 1; men <= 3; men++) {
            for (int houses = 1; houses <= 3; houses++) {
                for (int days = 1; days <= 3; days++) {
                    all.add(new int[] {men, houses, days});
                }
            }
        }
        // The sort is stable, and the list has its rows in order.
        all.sort(Comparator.comparingInt(sizes -> sizes[0] + sizes[1] + sizes[2]));
        for (int[] sizes : all) {
            if (factList(sizes).size() <= 12) {
                for (Map<List<Integer>, Boolean> world : possible(sizes, false)) {
                    if (allSo(viewed(), world, sizes)) {
                        return sizes[kind];
                    }
                }
            }
        }
        return NONE;
    }

    int core(int k) {
        if (!canTell() || !worldsOf(viewed()).isEmpty()) {
            return NONE;
        }
        for (List<Integer> set : sets(viewed())) {
            if (worldsOf(set).isEmpty()) {
                return at(set, k);
            }
        }
        throw new IllegalStateException();
    }

    int sure(int relation, int i, int j) {
        List<Integer> fact = factOf(relation, i, j);
        if (fact == null || !canTell()) {
            return NONE;
        }
        return sureIn(worldsOf(viewed()), fact);
    }

    private static int sureIn(List<Map<List<Integer>, Boolean>> worlds, List<Integer> fact) {
        boolean isSo = false;
        boolean isNot = false;
        for (Map<List<Integer>, Boolean> world : worlds) {
            isSo |= world.get(fact);
            isNot |= !world.get(fact);
        }
        return isSo == isNot ? NONE : isSo ? 1 : 0;
    }

    int cause(int relation, int i, int j, int k) {
        int sure = sure(relation, i, j);
        if (sure == NONE) {
            return NONE;
        }
        for (List<Integer> set : sets(viewed())) {
            if (sureIn(worldsOf(set), factOf(relation, i, j)) == sure) {
                return at(set, k);
            }
        }
        throw new IllegalStateException();
    }

    int without(int story) {
        if (!viewed().contains(story) || !canTell()) {
            return NONE;
        }
        List<Integer> others = new ArrayList<>(viewed());
        others.remove(Integer.valueOf(story));
        return worldsOf(others).size();
    }

    int questions() {
        if (!canTell()) {
            return NONE;
        }
        List<Map<List<Integer>, Boolean>> worlds = worldsOf(viewed());
        if (worlds.isEmpty() || worlds.size() > 16) {
            return NONE;
        }
        for (int d = 0; d <= 4; d++) {
            if (distinguished(worlds, d)) {
                return d;
            }
        }
        return NONE;
    }

    int settle(int what) {
        if (!canTell() || what < 0 || what > 3) {
            return NONE;
        }
        List<Map<List<Integer>, Boolean>> worlds = worldsOf(viewed());
        int[] best = null;
        for (List<Integer> fact : factList()) {
            int isSo = 0;
            for (Map<List<Integer>, Boolean> world : worlds) {
                isSo += world.get(fact) ? 1 : 0;
            }
            int greater = Math.max(isSo, worlds.size() - isSo);
            if (best == null || greater < best[3]) {
                best = new int[] {fact.get(0), fact.get(1), fact.get(2), greater};
            }
        }
        return best == null || worlds.isEmpty() ? NONE : best[what];
    }

    int near() {
        if (!canTell()) {
            return NONE;
        }
        Map<List<Integer>, Boolean> best = null;
        for (Map<List<Integer>, Boolean> world : worldsOf(viewed())) {
            int more = best == null ? -1 : differing(now.world, world) - differing(now.world, best);
            if (more < 0 || more == 0 && row(world).compareTo(row(best)) < 0) {
                best = world;
            }
        }
        if (best == null) {
            return NONE;
        }
        int differed = differing(now.world, best);
        now.world = new HashMap<>(best);
        return differed;
    }

    int holds(int what) {
        if (now.guess == null || !canTell() || what < 0 || what > 1) {
            return NONE;
        }
        int count = 0;
        for (Map<List<Integer>, Boolean> world : what == 0 ? worldsOf(viewed()) : formList()) {
            count += isSo(now.guess, world, now.sizes, new HashMap<>()) ? 1 : 0;
        }
        return count;
    }

    boolean against() {
        if (now.guess == null || !canTell()) {
            return false;
        }
        for (Map<List<Integer>, Boolean> world : formList()) {
            if (!isSo(now.guess, world, now.sizes, new HashMap<>())) {
                now.world = new HashMap<>(world);
                return true;
            }
        }
        return false;
    }

    int many(int what) {
        switch (what) {
            case 0:
            case 1:
            case 2:
                return now.sizes[what];
            case 3:
                return now.kinds.size();
            case 4:
                return now.stories.size();
            case 5:
                return now.day;
            case 6:
                return now.view;
            case 7:
                return viewed().stream().mapToInt(s -> 1 << s).sum();
            case 8:
                return Collections.frequency(now.world.values(), true);
            case 9:
                return now.guess == null ? 0 : now.guess.parts();
            case 10:
                return now.known.size();
            default:
                return -2;
        }
    }

    boolean image(int k) {
        if (k < 0 || k > 2) {
            return false;
        }
        images[k] = now.copied();
        return true;
    }

    boolean again(int k) {
        if (k < 0 || k > 2 || images[k] == null) {
            return false;
        }
        now = images[k].copied();
        return true;
    }
}
