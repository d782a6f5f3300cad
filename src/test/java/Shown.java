import java.util.Arrays;

/**
 * Lines that nodes see though nobody sends: whoever would see the level instead is disturbed. So a
 * reader reads what no sender of the program sends.
 */
final class Shown {
    private Shown() {
    }

    /** Of each node what it sees; the level is 0 at the two places given, where a reader answers. */
    static void toAll(SharedWire x, String[] views, int answer, int answer2) {
        for (int i = 0; i < views[0].length(); i++) {
            int level = i == answer || i == answer2 ? 0 : 1;
            Due.is("level " + i + " of a shown line", x.step(1, disturbed(views, i, level)), level);
        }
    }

    /** A whole right line, which that node answers, and the pause behind it. */
    static void to(SharedWire x, int node, String line) {
        toAll(x, oneSees(node, line), line.length() - 9, -1);
        Due.is("the pause comes behind a shown line", x.wire(), 3);
        x.step(3, 0);
    }

    static String[] oneSees(int node, String line) {
        String[] views = new String[4];
        Arrays.fill(views, "1".repeat(line.length()));
        views[node] = line;
        return views;
    }

    /** A line that may be wrong: the place of the bit with which that node broke it off, or -1. */
    static int untilBroken(SharedWire x, int node, String line) {
        String[] views = oneSees(node, line);
        for (int i = 0; i < line.length(); i++) {
            Model.Reading before = Model.reading(line.substring(0, i));
            x.step(1, disturbed(views, i, before.answerNext() && before.checkRight() ? 0 : 1));
            if (x.wire() == 2) {
                return i;
            }
        }
        return -1;
    }

    private static int disturbed(String[] views, int i, int level) {
        int disturbed = 0;
        for (int node = 0; node < 4; node++) {
            disturbed |= views[node].charAt(i) - '0' != level ? 1 << node : 0;
        }
        return disturbed;
    }
}
