/** All that can be seen of a village without a change of it, as one text; it takes fewer than 300 calls. */
final class Seen {
    private final VillageStories x;
    private final StringBuilder text = new StringBuilder();

    private Seen(VillageStories x) {
        this.x = x;
    }

    /** The tape must be no longer than longestTape, for its end is sought from there on. */
    static String of(VillageStories x, int longestTape) {
        Seen seen = new Seen(x);
        seen.numbers();
        seen.facts();
        seen.stories();
        seen.worlds();
        seen.tape(longestTape);
        return seen.text.toString();
    }

    private void add(String name, long answer) {
        text.append(name).append('=').append(answer).append(' ');
    }

    private void numbers() {
        for (int what = -1; what <= 11; what++) {
            add("many" + what, x.many(what));
        }
        add("facts", x.facts());
        add("fault", x.fault(0));
        add("place", x.fault(1));
        for (int place = 0; place < 4; place++) {
            add("apart" + place, x.apart(place));
        }
    }

    private void facts() {
        for (int r = 0; r < 4; r++) {
            for (int i = 0; i < 3; i++) {
                for (int j = 0; j < 3; j++) {
                    int fact = x.fact(r, i, j);
                    if (fact != VillageStories.NONE) {
                        add("fact", fact);
                        add("sure", x.facts() > 12 ? 0 : x.sure(r, i, j));
                    }
                }
            }
        }
    }

    private void stories() {
        add("guess", x.so(VillageStories.NONE));
        for (int story = 0; story < x.many(4); story++) {
            add("so" + story, x.so(story));
            add("breaks" + story, x.breaks(story, 0));
            add("without" + story, x.without(story));
        }
    }

    private void worlds() {
        add("worlds", x.worlds());
        add("forms", x.forms());
        add("questions", x.questions());
        for (int k = 0; k < 4; k++) {
            add("least" + k, x.least(k));
            add("core" + k, x.core(k));
            add("cause" + k, x.cause(0, 0, 0, k));
            add("settle" + k, x.settle(k));
            add("holds" + k, x.holds(k));
        }
    }

    private void tape(int longest) {
        int length = longest;
        while (length > 0 && x.end(length) == VillageStories.NONE) {
            length--;
        }
        add("tape", length);
    }
}
