/** Hand-worked answers for each promise of the document: ordinary inputs, edges, wrong inputs. */
public final class PromiseTest {
    private static final int BAD_READ = -1;
    private static final int BAD_SITE = -2;
    private static final int BAD_TRUST = -3;
    private static final int FULL = -4;

    private static int wrong = 0;

    private static void due(int promise, String call, int got, int want) {
        if (got != want) {
            wrong++;
            System.out.println("promise " + promise + ": " + call + " answered " + got + ", due is " + want);
        }
    }

    private static int span(int first, int n) {
        return first + 8 * n;
    }

    private static ReadPhaser full() {
        ReadPhaser x = new ReadPhaser();
        for (int r = 0; r < 8; r++) {
            x.read();
        }
        return x;
    }

    /** Reads 0 and 1 agree at sites 0 to 3, read 2 says the opposite there. */
    private static ReadPhaser twoAgainstOne() {
        ReadPhaser x = new ReadPhaser();
        x.stretch(span(0, 4), 0b0101, 2);
        x.stretch(span(0, 4), 0b0101, 3);
        x.stretch(span(0, 4), 0b1010, 4);
        return x;
    }

    /** At site 0: 0 with trust 5, 0 with 4, 1 with 3, 1 with 2. At site 1: 0 with 1, 1 with 2, 0 with 3, 1 with 6. */
    private static ReadPhaser tangled() {
        ReadPhaser x = full();
        for (int r = 0; r < 4; r++) {
            x.drop();
        }
        x.say(0, 0, 0, 5);
        x.say(1, 0, 0, 4);
        x.say(2, 0, 1, 3);
        x.say(3, 0, 1, 2);
        x.say(0, 1, 0, 1);
        x.say(1, 1, 1, 2);
        x.say(2, 1, 0, 3);
        x.say(3, 1, 1, 6);
        return x;
    }

    private static void newObject() {
        ReadPhaser x = new ReadPhaser();
        due(1, "say(0, 0, 0, 1)", x.say(0, 0, 0, 1), BAD_READ);
        due(1, "leastWith(0, 0, false)", x.leastWith(0, 0, false), BAD_READ);
        for (int site = 0; site < 8; site++) {
            due(1, "cover", x.cover(site), 0);
        }
        due(1, "drop()", x.drop(), BAD_READ);
        due(1, "read()", x.read(), 0);
        ReadPhaser other = new ReadPhaser();
        due(1, "read() of another object", other.read(), 0);
    }

    private static void read() {
        ReadPhaser x = new ReadPhaser();
        for (int r = 0; r < 8; r++) {
            due(2, "read()", x.read(), r);
        }
        x.say(7, 3, 1, 6);
        due(2, "read() when full", x.read(), FULL);
        due(2, "read() when full, again", x.read(), FULL);
        due(2, "cover(3) after FULL", x.cover(3), 1);
        due(2, "say(8, ..) after FULL", x.say(8, 0, 0, 1), BAD_READ);
        due(2, "drop() after FULL", x.drop(), 7);
        due(2, "read() in the place of a dropped one", x.read(), 7);
        due(2, "cover(3): a new read says nothing", x.cover(3), 0);
        due(2, "say(7, 3, 0, 1): old trust", x.say(7, 3, 0, 1), 0);
    }

    private static void say() {
        ReadPhaser x = new ReadPhaser();
        x.read();
        x.read();
        due(3, "say(0, 0, 0, 9)", x.say(0, 0, 0, 9), 0);
        due(3, "say(1, 7, 1, 1)", x.say(1, 7, 1, 1), 0);
        due(3, "say(0, 0, 1, 4)", x.say(0, 0, 1, 4), 9);
        due(3, "say(-1, ..)", x.say(-1, 0, 0, 2), BAD_READ);
        due(3, "say(2, ..)", x.say(2, 0, 0, 2), BAD_READ);
        due(3, "say(MIN, ..)", x.say(Integer.MIN_VALUE, 0, 0, 2), BAD_READ);
        due(3, "say(MAX, ..)", x.say(Integer.MAX_VALUE, 0, 0, 2), BAD_READ);
        due(3, "say(0, -1, ..)", x.say(0, -1, 0, 2), BAD_SITE);
        due(3, "say(0, 8, ..)", x.say(0, 8, 0, 2), BAD_SITE);
        due(3, "say(1, MIN, ..)", x.say(1, Integer.MIN_VALUE, 0, 2), BAD_SITE);
        due(3, "say(1, MAX, ..)", x.say(1, Integer.MAX_VALUE, 0, 2), BAD_SITE);
        due(3, "say(0, 0, 0, -1)", x.say(0, 0, 0, -1), BAD_TRUST);
        due(3, "say(0, 0, 0, 10)", x.say(0, 0, 0, 10), BAD_TRUST);
        due(3, "refusals left site 0", x.cover(0), 1);
        due(3, "refusals left site 7", x.cover(7), 1);
        due(3, "say(1, 0, 0, 2)", x.say(1, 0, 0, 2), 0);
        due(3, "the refused values were not taken", x.costOf(0), 2);
        due(3, "say(0, 0, 1, 0)", x.say(0, 0, 1, 0), 4);
        due(3, "say(0, 0, 1, 0) again", x.say(0, 0, 1, 0), 0);
        due(3, "trust 0 is nothing", x.cover(0), 1);
        due(3, "trust 0 costs nothing", x.costOf(0), 0);
        x.say(0, 0, -2, 9);
        due(3, "value -2 is 0", x.costOf(0), 0);
        x.say(0, 0, -1, 9);
        due(3, "value -1 is 1", x.costOf(0), 2);
        x.say(0, 0, 6, 9);
        due(3, "value 6 is 0", x.costOf(0), 0);
        x.say(0, 0, 7, 1);
        due(3, "value 7 is 1", x.costOf(0), 1);
    }

    private static void stretch() {
        ReadPhaser x = new ReadPhaser();
        due(4, "stretch at 2 to 4", x.stretch(span(2, 3), 0b11111101, 5), 0);
        int[] covers = {0, 0, 1, 1, 1, 0, 0, 0};
        for (int site = 0; site < 8; site++) {
            due(4, "cover(" + site + ")", x.cover(site), covers[site]);
        }
        due(4, "all eight sites, bits of -1", x.stretch(span(0, 8), -1, 1), 1);
        due(4, "read 0 says 1, 0, 1", x.costOf(0), 1);
        due(4, "other bits of span", x.stretch(span(7, 1) | 0xFFFFFF80, 0, 9), 2);
        due(4, "cover(7)", x.cover(7), 2);
        due(4, "cover(6)", x.cover(6), 1);
        due(4, "n 0", x.stretch(span(0, 0), 1, 1), BAD_SITE);
        due(4, "n 9", x.stretch(span(0, 9), 1, 1), BAD_SITE);
        due(4, "n 15", x.stretch(span(7, 15), 1, 1), BAD_SITE);
        due(4, "first 1, n 8", x.stretch(span(1, 8), 1, 1), BAD_SITE);
        due(4, "first 7, n 2", x.stretch(span(7, 2), 1, 1), BAD_SITE);
        due(4, "n 16 is n 0", x.stretch(128, 1, 1), BAD_SITE);
        due(4, "span -1", x.stretch(-1, 1, 1), BAD_SITE);
        due(4, "trust 0", x.stretch(span(0, 1), 1, 0), BAD_TRUST);
        due(4, "trust -1", x.stretch(span(0, 1), 1, -1), BAD_TRUST);
        due(4, "trust 10", x.stretch(span(0, 1), 1, 10), BAD_TRUST);
        due(4, "refusals changed nothing", x.cover(0), 1);
        due(4, "drop()", x.drop(), 2);
        due(4, "in the place of the dropped one", x.stretch(span(0, 1), 0, 9), 2);
        due(4, "the dropped words are gone", x.cover(7), 1);
        ReadPhaser full = full();
        due(4, "stretch when full", full.stretch(span(0, 8), 0, 1), FULL);
        due(4, "FULL changed nothing", full.cover(0), 0);
        due(4, "drop() after FULL", full.drop(), 7);
        due(4, "the eighth read", full.stretch(span(3, 5), 0, 9), 7);
    }

    private static void drop() {
        ReadPhaser x = twoAgainstOne();
        due(5, "drop()", x.drop(), 2);
        due(5, "cover(0)", x.cover(0), 2);
        due(5, "say(2, ..)", x.say(2, 0, 0, 1), BAD_READ);
        due(5, "costOf(0)", x.costOf(0), 0);
        due(5, "drop()", x.drop(), 1);
        due(5, "the last one was taken out", x.say(0, 0, 1, 2), 2);
        due(5, "drop()", x.drop(), 0);
        due(5, "drop() without reads", x.drop(), BAD_READ);
        due(5, "drop() without reads, again", x.drop(), BAD_READ);
        due(5, "read()", x.read(), 0);
        ReadPhaser full = full();
        for (int left = 7; left >= 0; left--) {
            due(5, "drop()", full.drop(), left);
        }
    }

    private static void least() {
        due(6, "least() without reads", new ReadPhaser().least(), 0);
        due(6, "least() of silent reads", full().least(), 0);
        due(6, "least() of two against one", twoAgainstOne().least(), 0);
        // For masks 0, 2, .. 14 the costs are 9, 9, 3, 8, 5, 5, 4, 7.
        due(6, "least() of the tangled ones", tangled().least(), 3);
        ReadPhaser x = new ReadPhaser();
        x.stretch(span(0, 8), 0b10101010, 9);
        due(6, "least() of one read", x.least(), 0);
        greatest();
    }

    /** Eight loud reads, of which any two agree at just half of the sites. */
    private static void greatest() {
        ReadPhaser x = new ReadPhaser();
        int[] rows = {0x00, 0x55, 0x33, 0x66, 0x0F, 0x5A, 0x3C, 0x69};
        for (int r = 0; r < 8; r++) {
            x.stretch(span(0, 8), rows[r], 9);
        }
        due(6, "costOf(0) of the loud ones", x.costOf(0), 7 * 4 * 9);
        // With 1, 2, 3 and 4 reads on the smaller strand at least 21, 22, 19 and 20 words are misread.
        due(6, "least() of the loud ones", x.least(), 19 * 9);
    }

    private static void sorting() {
        due(7, "sorting() without reads", new ReadPhaser().sorting(), 0);
        due(7, "sorting() of silent reads", full().sorting(), 0);
        due(7, "sorting() of two against one", twoAgainstOne().sorting(), 4);
        due(7, "sorting() of the tangled ones", tangled().sorting(), 4);
        ReadPhaser x = new ReadPhaser();
        x.read();
        x.stretch(span(0, 1), 0, 1);
        x.stretch(span(0, 1), 1, 1);
        due(7, "sorting(): the smaller mask of a tie", x.sorting(), 2);
    }

    private static void ties() {
        due(8, "ties() without reads", new ReadPhaser().ties(), 1);
        ReadPhaser x = new ReadPhaser();
        for (int r = 0; r < 8; r++) {
            x.read();
            due(8, "ties() of " + (r + 1) + " silent reads", x.ties(), 1 << r);
        }
        due(8, "ties() of two against one", twoAgainstOne().ties(), 1);
        ReadPhaser y = new ReadPhaser();
        y.read();
        y.stretch(span(0, 1), 0, 1);
        y.stretch(span(0, 1), 1, 1);
        due(8, "ties() of a silent read and two that differ", y.ties(), 2);
        y.say(0, 0, 1, 1);
        due(8, "ties() when the first speaks", y.ties(), 1);
    }

    private static void costOf() {
        due(9, "costOf(0) without reads", new ReadPhaser().costOf(0), 0);
        due(9, "costOf(-1) without reads", new ReadPhaser().costOf(-1), 0);
        ReadPhaser x = twoAgainstOne();
        due(9, "costOf(0)", x.costOf(0), 16);
        due(9, "costOf(2)", x.costOf(2), 8);
        due(9, "costOf(4)", x.costOf(4), 0);
        due(9, "costOf(6)", x.costOf(6), 12);
        due(9, "costOf(1): bit 0 is not looked at", x.costOf(1), 16);
        due(9, "costOf(7): bit 0 is not looked at", x.costOf(7), 12);
        due(9, "costOf(8): there is no read 3", x.costOf(8), 16);
        due(9, "costOf(-4): high bits are not looked at", x.costOf(-4), 0);
        due(9, "costOf(MIN)", x.costOf(Integer.MIN_VALUE), 16);
        due(9, "costOf(MAX)", x.costOf(Integer.MAX_VALUE), 12);
        ReadPhaser y = tangled();
        int[] costs = {9, 9, 3, 8, 5, 5, 4, 7};
        for (int i = 0; i < 8; i++) {
            due(9, "tangled costOf(" + 2 * i + ")", y.costOf(2 * i), costs[i]);
        }
    }

    private static void leastForced() {
        due(10, "leastForced() without reads", new ReadPhaser().leastForced(), 0);
        due(10, "leastForced() of silent reads", full().leastForced(), 0);
        due(10, "leastForced() of two against one", twoAgainstOne().leastForced(), 0);
        ReadPhaser x = new ReadPhaser();
        x.stretch(span(0, 2), 0b00, 5);
        x.stretch(span(0, 2), 0b10, 3);
        due(10, "least() of half agreement", x.least(), 0);
        due(10, "leastForced() of half agreement", x.leastForced(), 3);
        x.say(1, 0, 0, 4);
        due(10, "leastForced() with the agreement trusted more", x.leastForced(), 3);
        x.say(1, 1, 1, 9);
        due(10, "leastForced() with the difference trusted more", x.leastForced(), 4);
    }

    private static void sortingForced() {
        due(11, "sortingForced() without reads", new ReadPhaser().sortingForced(), 0);
        due(11, "sortingForced() of silent reads", full().sortingForced(), 0);
        due(11, "sortingForced() of two against one", twoAgainstOne().sortingForced(), 4);
        ReadPhaser x = new ReadPhaser();
        x.stretch(span(0, 2), 0b00, 5);
        x.stretch(span(0, 2), 0b10, 3);
        due(11, "sortingForced() of a tie", x.sortingForced(), 0);
        x.say(1, 0, 0, 4);
        due(11, "sortingForced(): together", x.sortingForced(), 0);
        due(11, "sorting(): apart", x.sorting(), 2);
        x.say(1, 1, 1, 9);
        due(11, "sortingForced(): apart", x.sortingForced(), 2);
    }

    private static void leastWith() {
        ReadPhaser x = twoAgainstOne();
        due(12, "0 and 1 together", x.leastWith(0, 1, false), 0);
        due(12, "0 and 1 apart", x.leastWith(0, 1, true), 8);
        due(12, "1 and 0 apart", x.leastWith(1, 0, true), 8);
        due(12, "0 and 2 together", x.leastWith(0, 2, false), 8);
        due(12, "1 and 2 together", x.leastWith(1, 2, false), 12);
        due(12, "2 and 1 apart", x.leastWith(2, 1, true), 0);
        due(12, "a read with itself", x.leastWith(2, 2, false), 0);
        due(12, "a read with itself, apart", x.leastWith(2, 2, true), BAD_READ);
        due(12, "read 0 with itself, apart", x.leastWith(0, 0, true), BAD_READ);
        int[] none = {-1, 3, 8, 32, Integer.MIN_VALUE, Integer.MAX_VALUE};
        for (int n : none) {
            due(12, "leastWith(" + n + ", 0, false)", x.leastWith(n, 0, false), BAD_READ);
            due(12, "leastWith(0, " + n + ", false)", x.leastWith(0, n, false), BAD_READ);
            due(12, "leastWith(0, " + n + ", true)", x.leastWith(0, n, true), BAD_READ);
            due(12, "leastWith of " + n + " twice", x.leastWith(n, n, false), BAD_READ);
        }
    }

    private static void cover() {
        ReadPhaser x = twoAgainstOne();
        due(13, "cover(0)", x.cover(0), 3);
        due(13, "cover(3)", x.cover(3), 3);
        due(13, "cover(4)", x.cover(4), 0);
        x.say(0, 7, 0, 1);
        due(13, "cover(7)", x.cover(7), 1);
        x.say(1, 0, 0, 0);
        due(13, "cover(0) with one silenced", x.cover(0), 2);
        due(13, "cover(-1)", x.cover(-1), BAD_SITE);
        due(13, "cover(8)", x.cover(8), BAD_SITE);
        due(13, "cover(MIN)", x.cover(Integer.MIN_VALUE), BAD_SITE);
        due(13, "cover(MAX)", x.cover(Integer.MAX_VALUE), BAD_SITE);
        due(13, "cover(8) without reads", new ReadPhaser().cover(8), BAD_SITE);
    }

    private static void order() {
        ReadPhaser x = new ReadPhaser();
        due(14, "say: all wrong", x.say(0, 8, 0, 10), BAD_READ);
        due(14, "say: read and trust wrong", x.say(0, 0, 0, 10), BAD_READ);
        due(14, "say: read and site wrong", x.say(-1, -1, 0, 1), BAD_READ);
        x.read();
        due(14, "say: site and trust wrong", x.say(0, 8, 0, 10), BAD_SITE);
        due(14, "say: trust wrong", x.say(0, 7, 0, 10), BAD_TRUST);
        due(14, "stretch: span and trust wrong", x.stretch(span(0, 0), 0, 0), BAD_SITE);
        ReadPhaser full = full();
        due(14, "stretch: span and trust wrong, and full", full.stretch(span(7, 2), 0, 10), BAD_SITE);
        due(14, "stretch: span wrong, and full", full.stretch(span(7, 2), 0, 1), BAD_SITE);
        due(14, "stretch: trust wrong, and full", full.stretch(span(0, 8), 0, 0), BAD_TRUST);
        due(14, "stretch: full", full.stretch(span(0, 8), 0, 9), FULL);
    }

    public static void main(String[] args) {
        newObject();
        read();
        say();
        stretch();
        drop();
        least();
        sorting();
        ties();
        costOf();
        leastForced();
        sortingForced();
        leastWith();
        cover();
        order();
        System.out.println(wrong == 0 ? "all answers are as due" : wrong + " answers are not as due");
        if (wrong != 0) {
            System.exit(1);
        }
    }
}
