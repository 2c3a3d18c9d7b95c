/** Puts texts on the tape of a village: twenty bytes a call, then the end where the text has its own. */
final class Tape {
    private Tape() {
    }

    /** What ints of twenty bytes each hold the text, with blanks behind it. */
    static int[] ints(String text) {
        int calls = (text.length() + 19) / 20;
        int[] ints = new int[calls * 5];
        for (int at = 0; at < calls * 20; at++) {
            int sign = at < text.length() ? text.charAt(at) & 255 : ' ';
            ints[at / 4] |= sign << (24 - at % 4 * 8);
        }
        return ints;
    }

    /** The text comes on a tape that must be empty. */
    static void put(VillageStories x, String text) {
        int[] ints = ints(text);
        for (int at = 0; at < ints.length; at += 5) {
            x.feed(ints[at], ints[at + 1], ints[at + 2], ints[at + 3], ints[at + 4]);
        }
        x.end(text.length());
    }

    static int story(VillageStories x, String text) {
        put(x, text);
        return x.story();
    }

    static int guess(VillageStories x, String text) {
        put(x, text);
        return x.guess();
    }
}
