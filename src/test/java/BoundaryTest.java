import java.util.Arrays;
import java.util.function.Supplier;

/** One test for each sentence of the document that names a boundary case, in the document's order. */
public final class BoundaryTest {
    private static final int BAD_READ = -1;
    private static final int BAD_SITE = -2;
    private static final int BAD_TRUST = -3;
    private static final int FULL = -4;

    private static final int MIN = Integer.MIN_VALUE;
    private static final int MAX = Integer.MAX_VALUE;

    /** Right and wrong numbers: next to every limit, and where a careless shift, cast or product wraps round. */
    private static final int[] ODD = {
        MIN, MIN + 1, -536870912, -257, -256, -129, -64, -32, -9, -8, -2, -1, 0, 1, 2, 3, 6, 7, 8, 9, 10, 11,
        15, 16, 31, 32, 33, 63, 64, 128, 255, 256, 257, 65536, 536870912, MAX - 1, MAX};

    /** One broken sentence can give thousands of wrong answers, most of them alike. */
    private static final int MOST_TOLD = 10;

    private static String sentence = "";
    private static int wrong = 0;
    private static int wrongHere = 0;
    private static int sentences = 0;

    private static void test(String told, Runnable body) {
        sentence = told;
        sentences++;
        wrongHere = 0;
        try {
            body.run();
        } catch (RuntimeException e) {
            tell("threw " + e);
        }
        if (wrongHere > MOST_TOLD) {
            System.out.println(sentence + ": " + (wrongHere - MOST_TOLD) + " more");
        }
    }

    private static void tell(String fault) {
        wrong++;
        wrongHere++;
        if (wrongHere <= MOST_TOLD) {
            System.out.println(sentence + ": " + fault);
        }
    }

    private static void due(String call, int got, int want) {
        if (got != want) {
            tell(call + " answered " + got + ", due is " + want);
        }
    }

    private static void dueWords(String call, Supplier<ReadPhaser> made, int[][] want) {
        int[][] got = words(made);
        if (!Arrays.deepEquals(got, want)) {
            tell("after " + call + " the reads say " + Arrays.deepToString(got)
                + ", due is " + Arrays.deepToString(want));
        }
    }

    /**
     * All that the reads say: for each read and site the trust of a said 1, less the trust of a said 0,
     * 0 for nothing. To look at a word spoils the object, so that one is made anew for each word.
     */
    private static int[][] words(Supplier<ReadPhaser> made) {
        int reads = made.get().drop() + 1;
        int[][] words = new int[reads][8];
        for (int r = 0; r < reads; r++) {
            for (int site = 0; site < 8; site++) {
                words[r][site] = word(made.get(), reads, r, site);
            }
        }
        return words;
    }

    /** Silences all but the one word, and sets a loud word of another read against it on the same strand. */
    private static int word(ReadPhaser x, int reads, int read, int site) {
        int other = reads == 1 ? x.read() : read == 0 ? 1 : 0;
        for (int r = 0; r < reads; r++) {
            for (int s = 0; s < 8; s++) {
                if (r != read || s != site) {
                    x.say(r, s, 0, 0);
                }
            }
        }
        x.say(other, site, 0, 9);
        int trustOf1 = x.costOf(0);
        x.say(other, site, 1, 9);
        return trustOf1 - x.costOf(0);
    }

    private static int span(int first, int n) {
        return first + 8 * n;
    }

    private static boolean in(int n, int low, int high) {
        return low <= n && n <= high;
    }

    private static ReadPhaser silent(int reads) {
        ReadPhaser x = new ReadPhaser();
        for (int r = 0; r < reads; r++) {
            x.read();
        }
        return x;
    }

    private static ReadPhaser loud(int reads) {
        ReadPhaser x = new ReadPhaser();
        for (int r = 0; r < reads; r++) {
            x.stretch(span(0, 8), 0x5A >> r, 9 - r);
        }
        return x;
    }

    private static ReadPhaser loudThenDropped(int reads, int left) {
        ReadPhaser x = loud(reads);
        for (int r = reads; r > left; r--) {
            x.drop();
        }
        return x;
    }

    private static final int[][] MIXED = {
        {-5, 0, 0, 0, 0, 0, 0, 9},
        {1, 0, 0, 0, 0, 0, 0, 0},
        {0, 0, 0, 0, 0, 0, 0, 0}};

    private static ReadPhaser mixed() {
        ReadPhaser x = silent(3);
        x.say(0, 0, 0, 5);
        x.say(0, 7, 1, 9);
        x.say(1, 0, 1, 1);
        return x;
    }

    private static final int[][] ONE_AGAINST_SEVEN = {
        {-1, 0, 0, 0, 0, 0, 0, 0},
        {-2, 0, 0, 0, 0, 0, 0, 0},
        {-3, 0, 0, 0, 0, 0, 0, 0},
        {-4, 0, 0, 0, 0, 0, 0, 0},
        {-5, 0, 0, 0, 0, 0, 0, 0},
        {-6, 0, 0, 0, 0, 0, 0, 0},
        {-7, 0, 0, 0, 0, 0, 0, 0},
        {9, 0, 0, 0, 0, 0, 0, 0}};

    private static ReadPhaser oneAgainstSeven() {
        ReadPhaser x = new ReadPhaser();
        for (int r = 0; r < 7; r++) {
            x.stretch(span(0, 1), 0, r + 1);
        }
        x.stretch(span(0, 1), 1, 9);
        return x;
    }

    /** Read 0 says 0 at site 0, each of the others says 1 there. */
    private static ReadPhaser firstAgainstRest(int reads) {
        ReadPhaser x = new ReadPhaser();
        for (int r = 0; r < reads; r++) {
            x.stretch(span(0, 1), r == 0 ? 0 : 1, 1);
        }
        return x;
    }

    /** Any two of the three differ at one site: all on one strand cost 3, and any other sorting costs 1, forced or not. */
    private static ReadPhaser threeAtOdds() {
        ReadPhaser x = silent(3);
        x.say(0, 0, 0, 1);
        x.say(1, 0, 1, 1);
        x.say(0, 1, 0, 1);
        x.say(2, 1, 1, 1);
        x.say(1, 2, 0, 1);
        x.say(2, 2, 1, 1);
        return x;
    }

    // Terms

    private static void asManySortings() {
        due("ties() without reads", silent(0).ties(), 1);
        due("ties() of 1 read", silent(1).ties(), 1);
        due("ties() of 2 reads", silent(2).ties(), 2);
        due("ties() of 3 reads", silent(3).ties(), 4);
        due("ties() of 7 reads", silent(7).ties(), 64);
        due("ties() of 8 reads", silent(8).ties(), 128);
        for (int reads = 2; reads <= 8; reads++) {
            // The mask 1 would cost as little and be smaller.
            ReadPhaser x = firstAgainstRest(reads);
            due("sorting() of " + reads + " reads", x.sorting(), (1 << reads) - 2);
            due("sortingForced() of " + reads + " reads", x.sortingForced(), (1 << reads) - 2);
            due("ties() of " + reads + " reads, one against the rest", x.ties(), 1);
        }
    }

    private static void emptySorting() {
        for (int before = 0; before <= 8; before += 4) {
            ReadPhaser x = loudThenDropped(before, 0);
            due("least()", x.least(), 0);
            due("sorting()", x.sorting(), 0);
            due("ties()", x.ties(), 1);
            due("costOf(0)", x.costOf(0), 0);
            due("costOf(-1)", x.costOf(-1), 0);
            due("leastForced()", x.leastForced(), 0);
            due("sortingForced()", x.sortingForced(), 0);
        }
    }

    private static int ask(ReadPhaser x, int question, int number) {
        switch (question) {
            case 0: return x.least();
            case 1: return x.sorting();
            case 2: return x.ties();
            case 3: return x.costOf(number);
            case 4: return x.leastForced();
            case 5: return x.sortingForced();
            case 6: return x.leastWith(number, 0, false);
            case 7: return x.leastWith(0, number, true);
            default: return x.cover(number);
        }
    }

    private static void questionsChangeNothing() {
        int[] numbers = {-1, 0, 1, 2, 7, 8, 254, MIN, MAX};
        for (int q = 0; q <= 8; q++) {
            for (int number : numbers) {
                int question = q;
                String call = "question " + q + " with " + number;
                dueWords(call, () -> asked(new ReadPhaser(), question, number), new int[0][8]);
                dueWords(call, () -> asked(mixed(), question, number), MIXED);
                dueWords(call, () -> asked(oneAgainstSeven(), question, number), ONE_AGAINST_SEVEN);
            }
        }
        answersStay(new ReadPhaser());
        answersStay(mixed());
        answersStay(oneAgainstSeven());
    }

    private static ReadPhaser asked(ReadPhaser x, int question, int number) {
        ask(x, question, number);
        return x;
    }

    private static void answersStay(ReadPhaser x) {
        int[] before = new int[9];
        for (int q = 0; q <= 8; q++) {
            before[q] = ask(x, q, 2);
        }
        for (int q = 8; q >= 0; q--) {
            due("question " + q + " with 2, again", ask(x, q, 2), before[q]);
        }
    }

    // Promise 1

    private static void noReads() {
        loud(8);
        ReadPhaser x = new ReadPhaser();
        for (int n = 0; n < 8; n++) {
            due("say(" + n + ", 0, 0, 1)", x.say(n, 0, 0, 1), BAD_READ);
            due("leastWith(" + n + ", " + n + ", false)", x.leastWith(n, n, false), BAD_READ);
            due("cover(" + n + ")", x.cover(n), 0);
        }
        due("drop()", x.drop(), BAD_READ);
        due("least()", x.least(), 0);
        due("ties()", x.ties(), 1);
        due("read()", x.read(), 0);
        due("stretch on another", new ReadPhaser().stretch(span(0, 8), 0, 1), 0);
    }

    // Promise 2

    private static void readWhenFull() {
        due("read() with 7 reads", silent(7).read(), 7);
        due("read() with 8 reads", silent(8).read(), FULL);
        due("read() with 8 stretches", loud(8).read(), FULL);
        dueWords("read() when full", () -> {
            ReadPhaser x = oneAgainstSeven();
            for (int i = 0; i < 3; i++) {
                due("read() when full", x.read(), FULL);
            }
            return x;
        }, ONE_AGAINST_SEVEN);
    }

    private static void readAnswersItsNumber() {
        for (int reads = 0; reads < 8; reads++) {
            due("read() with " + reads + " silent reads", silent(reads).read(), reads);
            due("read() with " + reads + " loud reads", loud(reads).read(), reads);
            due("read() after drops to " + reads, loudThenDropped(8, reads).read(), reads);
        }
    }

    // Promise 3

    private static void valueAnd1() {
        int[] values = {0, 1, 2, 3, 256, 257, -1, -2, MIN, MIN + 1, MAX, MAX - 1};
        int[] said = {0, 1, 0, 1, 0, 1, 1, 0, 0, 1, 1, 0};
        for (int i = 0; i < values.length; i++) {
            for (int trust = 1; trust <= 9; trust += 4) {
                int value = values[i];
                int given = trust;
                int word = said[i] == 1 ? trust : -trust;
                int[][] want = {{0, 0, 0, 0, 0, 0, 0, word}, {word, 0, 0, 0, 0, 0, 0, 0}};
                dueWords("say(0, 7, ..) and say(1, 0, ..) of " + value + " with " + trust, () -> {
                    ReadPhaser x = silent(2);
                    x.say(0, 7, value, given);
                    x.say(1, 0, value, given);
                    return x;
                }, want);
            }
        }
    }

    private static void trust0IsNothing() {
        for (int value = 0; value <= 1; value++) {
            int said = value;
            int[][] want = {{0, 0, 0, 0, 0, 0, 0, 9}, {0, 0, 0, 0, 0, 0, 0, 0}, {0, 0, 0, 0, 0, 0, 0, 0}};
            dueWords("trust 0 with value " + value, () -> {
                ReadPhaser x = mixed();
                due("say(0, 0, " + said + ", 0)", x.say(0, 0, said, 0), 5);
                due("say(1, 0, " + said + ", 0)", x.say(1, 0, said, 0), 1);
                due("say(2, 0, " + said + ", 0)", x.say(2, 0, said, 0), 0);
                due("cover(0)", x.cover(0), 0);
                return x;
            }, want);
        }
    }

    private static void sayNoSuchRead() {
        for (int reads = 0; reads <= 8; reads++) {
            for (int read : ODD) {
                int want = in(read, 0, reads - 1) ? 0 : BAD_READ;
                due("say(" + read + ", 0, 1, 9) with " + reads + " reads", silent(reads).say(read, 0, 1, 9), want);
            }
            due("say of a dropped read", loudThenDropped(8, reads).say(reads, 0, 1, 9), BAD_READ);
        }
    }

    private static void sayNoSuchSite() {
        for (int site : ODD) {
            int want = in(site, 0, 7) ? 0 : BAD_SITE;
            for (int read = 0; read < 8; read++) {
                due("say(" + read + ", " + site + ", 1, 9)", silent(8).say(read, site, 1, 9), want);
            }
        }
    }

    private static void sayNoSuchTrust() {
        for (int trust : ODD) {
            int want = in(trust, 0, 9) ? 0 : BAD_TRUST;
            due("say(0, 0, 0, " + trust + ")", silent(1).say(0, 0, 0, trust), want);
            due("say(7, 7, 1, " + trust + ")", silent(8).say(7, 7, 1, trust), want);
        }
    }

    private static void sayRefusedChangesNothing() {
        for (int n : ODD) {
            if (!in(n, 0, 2)) {
                dueWords("say(" + n + ", 0, 1, 3)", () -> said(mixed(), n, 0, 1, 3), MIXED);
            }
            if (!in(n, 0, 7)) {
                dueWords("say(0, " + n + ", 1, 3)", () -> said(mixed(), 0, n, 1, 3), MIXED);
                dueWords("say(1, " + n + ", 0, 3)", () -> said(mixed(), 1, n, 0, 3), MIXED);
            }
            if (!in(n, 0, 9)) {
                dueWords("say(0, 0, 1, " + n + ")", () -> said(mixed(), 0, 0, 1, n), MIXED);
                dueWords("say(2, 7, 0, " + n + ")", () -> said(mixed(), 2, 7, 0, n), MIXED);
            }
        }
    }

    private static ReadPhaser said(ReadPhaser x, int read, int site, int value, int trust) {
        x.say(read, site, value, trust);
        return x;
    }

    private static void sayAnswersOldTrust() {
        ReadPhaser x = silent(8);
        int[] trusts = {1, 9, 9, 0, 0, 5};
        for (int read = 0; read < 8; read += 7) {
            for (int site = 0; site < 8; site += 7) {
                int old = 0;
                for (int trust : trusts) {
                    due("say(" + read + ", " + site + ", 0, " + trust + ")", x.say(read, site, 0, trust), old);
                    due("the same with 1", x.say(read, site, 1, trust), trust);
                    old = trust;
                }
            }
        }
        due("say after a refused one", said(mixed(), 0, 0, 1, 10).say(0, 0, 0, 1), 5);
        due("say of a stretch's word", loud(1).say(0, 7, 0, 0), 9);
        ReadPhaser again = loudThenDropped(8, 7);
        again.read();
        due("say of a read in a dropped one's place", again.say(7, 0, 0, 1), 0);
    }

    // Promise 4

    private static boolean fits(int first, int n) {
        return in(n, 1, 8) && first + n <= 8;
    }

    private static void stretchNoSuchSites() {
        for (int n = 0; n <= 15; n++) {
            for (int first = 0; first <= 7; first++) {
                int want = fits(first, n) ? 0 : BAD_SITE;
                due("stretch of first " + first + ", n " + n, silent(0).stretch(span(first, n), 0, 1), want);
            }
        }
    }

    private static void stretchNoSuchTrust() {
        for (int trust : ODD) {
            int want = in(trust, 1, 9) ? 0 : BAD_TRUST;
            due("stretch(8, 0, " + trust + ")", silent(0).stretch(span(0, 1), 0, trust), want);
        }
    }

    private static void stretchWhenFull() {
        due("stretch with 7 reads", silent(7).stretch(span(0, 8), 0, 1), 7);
        due("stretch with 8 reads", silent(8).stretch(span(0, 8), 0, 1), FULL);
        due("stretch with 8 stretches", loud(8).stretch(span(7, 1), 0, 9), FULL);
    }

    private static void stretchRefusedChangesNothing() {
        for (int n = 0; n <= 15; n++) {
            for (int first = 0; first <= 7; first++) {
                int span = span(first, n);
                if (!fits(first, n)) {
                    dueWords("stretch(" + span + ", -1, 9)", () -> stretched(mixed(), span, -1, 9), MIXED);
                } else {
                    dueWords("stretch(" + span + ", -1, 0)", () -> stretched(mixed(), span, -1, 0), MIXED);
                    dueWords("stretch(" + span + ", -1, 10)", () -> stretched(mixed(), span, -1, 10), MIXED);
                }
            }
        }
        dueWords("stretch when full", () -> stretched(oneAgainstSeven(), span(0, 8), -1, 5), ONE_AGAINST_SEVEN);
        dueWords("stretch without reads", () -> stretched(silent(0), span(0, 9), -1, 5), new int[0][8]);
    }

    private static ReadPhaser stretched(ReadPhaser x, int span, int bits, int trust) {
        x.stretch(span, bits, trust);
        return x;
    }

    private static void stretchAnswersItsNumber() {
        for (int reads = 0; reads < 8; reads++) {
            due("stretch with " + reads + " silent reads", silent(reads).stretch(span(0, 8), 0, 1), reads);
            due("stretch with " + reads + " loud reads", loud(reads).stretch(span(7, 1), 0, 9), reads);
            due("stretch after drops to " + reads, loudThenDropped(8, reads).stretch(span(0, 1), 0, 1), reads);
        }
    }

    private static void otherBitsOfSpan() {
        int[] others = {0, 128, 256, 1 << 30, MIN, -128, MAX - 127};
        for (int other : others) {
            for (int n = 0; n <= 15; n++) {
                for (int first = 0; first <= 7; first++) {
                    int span = other | span(first, n);
                    due("stretch(" + span + ", 0, 1)", silent(0).stretch(span, 0, 1), fits(first, n) ? 0 : BAD_SITE);
                    if (fits(first, n)) {
                        int[][] want = new int[1][8];
                        Arrays.fill(want[0], first, first + n, 4);
                        dueWords("stretch(" + span + ", -1, 4)", () -> stretched(silent(0), span, -1, 4), want);
                    }
                }
            }
        }
    }

    private static void bitsOfAStretch() {
        int[][] last = {{0, 0, 0, 0, 0, 0, 0, -9}};
        dueWords("stretch at 7 of all bits but bit 0", () -> stretched(silent(0), span(7, 1), -2, 9), last);
        int[][] all = {{1, -1, -1, -1, 1, 1, -1, 1}};
        dueWords("stretch at 0 to 7 of 0xB1", () -> stretched(silent(0), span(0, 8), 0xB1, 1), all);
        dueWords("stretch at 0 to 7 of 0x800001B1", () -> stretched(silent(0), span(0, 8), MIN | 0x1B1, 1), all);
        int[][] inner = {{0, 0, 3, 3, -3, 0, 0, 0}};
        dueWords("stretch at 2 to 4 of 0b101011", () -> stretched(silent(0), span(2, 3), 0b101011, 3), inner);
        dueWords("the same in a dropped one's place",
            () -> stretched(loudThenDropped(8, 0), span(2, 3), 0b101011, 3), inner);
    }

    // Promise 5

    private static void dropWithoutReads() {
        ReadPhaser x = new ReadPhaser();
        due("drop()", x.drop(), BAD_READ);
        due("drop() again", x.drop(), BAD_READ);
        due("read() afterwards", x.read(), 0);
        due("drop() of it", x.drop(), 0);
        due("drop() of no other", x.drop(), BAD_READ);
        due("drop() after eight", loudThenDropped(8, 0).drop(), BAD_READ);
    }

    private static void dropAnswersWhatIsLeft() {
        for (int reads = 1; reads <= 8; reads++) {
            due("drop() of " + reads + " silent reads", silent(reads).drop(), reads - 1);
            due("drop() of " + reads + " loud reads", loud(reads).drop(), reads - 1);
        }
        for (int left = 0; left < 8; left++) {
            int[][] want = Arrays.copyOf(ONE_AGAINST_SEVEN, left);
            int drops = 8 - left;
            dueWords(drops + " drops", () -> {
                ReadPhaser x = oneAgainstSeven();
                for (int i = 0; i < drops; i++) {
                    x.drop();
                }
                return x;
            }, want);
        }
    }

    // Promise 6

    private static void leastWithoutReads() {
        due("least() of a new object", new ReadPhaser().least(), 0);
        for (int reads = 1; reads <= 8; reads++) {
            due("least() after " + reads + " were dropped", loudThenDropped(reads, 0).least(), 0);
        }
        due("least() of three at odds", threeAtOdds().least(), 1);
    }

    // Promises 7 and 8

    private static void smallestMaskOfLeast() {
        due("sorting() of one read", loud(1).sorting(), 0);
        due("sorting() of eight silent reads", silent(8).sorting(), 0);
        due("sorting() of one against seven", oneAgainstSeven().sorting(), 128);
        due("sorting() of the first against seven", firstAgainstRest(8).sorting(), 254);
        due("sorting() of three at odds: 2, 4 and 6 tie", threeAtOdds().sorting(), 2);
        ReadPhaser x = firstAgainstRest(3);
        x.say(1, 0, 0, 0);
        due("sorting(): 4 and 6 tie", x.sorting(), 4);
        ReadPhaser y = firstAgainstRest(8);
        for (int r = 1; r < 7; r++) {
            y.say(r, 0, 0, 0);
        }
        due("sorting(): 128 to 254 tie", y.sorting(), 128);
    }

    private static void asManyAsHaveTheLeast() {
        due("ties() of one read", loud(1).ties(), 1);
        due("ties() of one against seven", oneAgainstSeven().ties(), 1);
        due("ties() of three at odds", threeAtOdds().ties(), 3);
        for (int reads = 2; reads <= 8; reads++) {
            ReadPhaser x = silent(reads);
            x.say(0, 7, 0, 9);
            x.say(reads - 1, 7, 1, 1);
            due("ties() of " + reads + " reads, two at odds", x.ties(), 1 << (reads - 2));
            x.say(reads - 1, 7, 0, 1);
            due("ties() of " + reads + " reads, none at odds", x.ties(), 1 << (reads - 1));
        }
        ReadPhaser three = threeAtOdds();
        three.read();
        due("ties() of three at odds and a silent read", three.ties(), 6);
    }

    // Promise 9

    private static void bit0OfCostOf() {
        due("costOf(1) of two at odds", firstAgainstRest(2).costOf(1), 1);
        due("costOf(3) of two at odds", firstAgainstRest(2).costOf(3), 0);
        due("costOf(1) of one read", loud(1).costOf(1), 0);
        ReadPhaser x = oneAgainstSeven();
        for (int mask = 0; mask < 256; mask++) {
            due("costOf(" + mask + ")", x.costOf(mask), costOfOneAgainstSeven(mask));
        }
    }

    /** Read 7 alone says 1; what its strand's reads say is misread, or it is itself. */
    private static int costOfOneAgainstSeven(int mask) {
        boolean lastOnB = (mask & 128) != 0;
        int against = lastOnB ? 0 : 1;
        for (int r = 1; r < 7; r++) {
            boolean onB = (mask & 1 << r) != 0;
            against += onB == lastOnB ? r + 1 : 0;
        }
        return Math.min(against, 9);
    }

    /** At site 0: 0 with trust 1, 0 with 2, 1 with 4. For masks 0, 2, 4 and 6 the costs are 3, 1, 0 and 2. */
    private static ReadPhaser fourCosts() {
        ReadPhaser x = new ReadPhaser();
        x.stretch(span(0, 1), 0, 1);
        x.stretch(span(0, 1), 0, 2);
        x.stretch(span(0, 1), 1, 4);
        return x;
    }

    private static void costOfBitsOfNoRead() {
        int[] costs = {3, 1, 0, 2};
        ReadPhaser x = fourCosts();
        ReadPhaser dropped = fourCosts();
        for (int i = 0; i < 5; i++) {
            dropped.stretch(span(0, 3), 0b011, 9);
        }
        for (int i = 0; i < 5; i++) {
            dropped.drop();
        }
        for (int mask = 0; mask <= 6; mask += 2) {
            for (int bit = 3; bit < 32; bit++) {
                int odd = mask | 1 << bit;
                due("costOf(" + odd + ")", x.costOf(odd), costs[mask / 2]);
                due("costOf(" + odd + ") after drops", dropped.costOf(odd), costs[mask / 2]);
            }
            due("costOf with all high bits", x.costOf(mask | -8), costs[mask / 2]);
        }
        ReadPhaser full = oneAgainstSeven();
        for (int bit = 8; bit < 32; bit++) {
            due("costOf of eight reads with bit " + bit, full.costOf(1 << bit), 9);
            due("costOf(128) of eight reads with bit " + bit, full.costOf(1 << bit | 128), 0);
        }
    }

    // Promises 10 and 11

    /** All trust 1: both say 0 at site 0; at site 1 they differ. Together or apart, one word is forced. */
    private static ReadPhaser forcedTie() {
        ReadPhaser x = new ReadPhaser();
        x.stretch(span(0, 2), 0b00, 1);
        x.stretch(span(0, 2), 0b10, 1);
        return x;
    }

    private static void leastOfForced() {
        due("leastForced() without reads", new ReadPhaser().leastForced(), 0);
        due("leastForced() after drops", loudThenDropped(8, 0).leastForced(), 0);
        due("leastForced() of one read", loud(1).leastForced(), 0);
        due("leastForced() of silent reads", silent(8).leastForced(), 0);
        due("leastForced() of one against seven", oneAgainstSeven().leastForced(), 0);
        due("leastForced() of the first against seven", firstAgainstRest(8).leastForced(), 0);
        due("leastForced() of three at odds", threeAtOdds().leastForced(), 1);
        due("least() of the forced tie", forcedTie().least(), 0);
        due("leastForced() of the forced tie", forcedTie().leastForced(), 1);
        ReadPhaser x = forcedTie();
        x.say(0, 7, 0, 9);
        x.say(1, 7, 0, 8);
        due("leastForced() with agreement at site 7", x.leastForced(), 1);
        x.say(1, 7, 1, 8);
        due("leastForced() with a difference at site 7", x.leastForced(), 1);
        x.say(1, 0, 0, 9);
        x.say(0, 0, 0, 9);
        due("leastForced() with a loud agreement at site 0", x.leastForced(), 9);
    }

    private static void smallestMaskOfForced() {
        due("sortingForced() without reads", new ReadPhaser().sortingForced(), 0);
        due("sortingForced() of one read", loud(1).sortingForced(), 0);
        due("sortingForced() of silent reads", silent(8).sortingForced(), 0);
        due("sortingForced() of one against seven", oneAgainstSeven().sortingForced(), 128);
        due("sortingForced() of the first against seven", firstAgainstRest(8).sortingForced(), 254);
        due("sortingForced() of three at odds: 2, 4 and 6 tie", threeAtOdds().sortingForced(), 2);
        due("sorting() of the forced tie", forcedTie().sorting(), 2);
        due("sortingForced(): 0 and 2 tie", forcedTie().sortingForced(), 0);
        ReadPhaser x = forcedTie();
        x.read();
        x.say(0, 7, 0, 9);
        x.say(2, 7, 1, 9);
        due("sortingForced(): 4 and 6 tie", x.sortingForced(), 4);
    }

    // Promise 12

    private static void leastWithNoSuchRead() {
        for (int reads = 0; reads <= 8; reads++) {
            for (int n : ODD) {
                int together = in(n, 0, reads - 1) ? 0 : BAD_READ;
                int apart = in(n, 1, reads - 1) ? 0 : BAD_READ;
                String with = ") with " + reads + " reads";
                due("leastWith(0, " + n + ", false" + with, silent(reads).leastWith(0, n, false), together);
                due("leastWith(" + n + ", 0, false" + with, silent(reads).leastWith(n, 0, false), together);
                due("leastWith(" + n + ", " + n + ", false" + with, silent(reads).leastWith(n, n, false), together);
                due("leastWith(0, " + n + ", true" + with, silent(reads).leastWith(0, n, true), apart);
                due("leastWith(" + n + ", 0, true" + with, silent(reads).leastWith(n, 0, true), apart);
            }
            due("leastWith of a dropped read", loudThenDropped(8, reads).leastWith(reads, 0, false), BAD_READ);
            due("leastWith of a dropped read, apart", loudThenDropped(8, reads).leastWith(0, reads, true), BAD_READ);
        }
    }

    private static void leastWithItselfApart() {
        for (int reads = 0; reads <= 8; reads++) {
            for (int n : ODD) {
                due("leastWith(" + n + ", " + n + ", true)", loud(reads).leastWith(n, n, true), BAD_READ);
            }
        }
        for (int r = 0; r < 3; r++) {
            due("leastWith(" + r + ", " + r + ", false)", threeAtOdds().leastWith(r, r, false), 1);
        }
    }

    private static void leastWithTwoReads() {
        ReadPhaser x = oneAgainstSeven();
        for (int a = 0; a < 8; a++) {
            for (int b = 0; b < a; b++) {
                // Read 7 needs a strand of its own, else its strand's words are misread.
                int together = a == 7 ? b + 1 : 0;
                int apart = a == 7 ? 0 : b + 1;
                due("leastWith(" + a + ", " + b + ", false)", x.leastWith(a, b, false), together);
                due("leastWith(" + b + ", " + a + ", false)", x.leastWith(b, a, false), together);
                due("leastWith(" + a + ", " + b + ", true)", x.leastWith(a, b, true), apart);
                due("leastWith(" + b + ", " + a + ", true)", x.leastWith(b, a, true), apart);
            }
        }
        // Reads 1 to 7 belong together on strand B: the last of all masks.
        ReadPhaser y = firstAgainstRest(8);
        due("leastWith(1, 7, false) of the first against seven", y.leastWith(1, 7, false), 0);
        due("leastWith(1, 7, true) of the first against seven", y.leastWith(1, 7, true), 1);
        due("leastWith(0, 7, false) of the first against seven", y.leastWith(0, 7, false), 1);
        due("leastWith(0, 7, true) of the first against seven", y.leastWith(0, 7, true), 0);
    }

    // Promise 13

    private static void coverCounts() {
        for (int reads = 0; reads <= 8; reads++) {
            for (int site = 0; site < 8; site++) {
                due("cover(" + site + ") of " + reads + " loud reads", loud(reads).cover(site), reads);
                due("cover(" + site + ") of " + reads + " silent reads", silent(reads).cover(site), 0);
                due("cover(" + site + ") after drops to " + reads, loudThenDropped(8, reads).cover(site), reads);
            }
        }
        int[] covers = {2, 0, 0, 0, 0, 0, 0, 1};
        for (int site = 0; site < 8; site++) {
            due("cover(" + site + ") of the mixed ones", mixed().cover(site), covers[site]);
        }
        due("cover(0) with one silenced", said(mixed(), 0, 0, 0, 0).cover(0), 1);
    }

    private static void coverNoSuchSite() {
        for (int reads = 0; reads <= 8; reads++) {
            for (int site : ODD) {
                int want = in(site, 0, 7) ? reads : BAD_SITE;
                due("cover(" + site + ") of " + reads + " reads", loud(reads).cover(site), want);
            }
        }
    }

    // Promise 14

    private static void orderInSay() {
        for (int reads = 0; reads <= 8; reads += 4) {
            for (int read : ODD) {
                for (int site : ODD) {
                    for (int trust : ODD) {
                        int want = !in(read, 0, reads - 1) ? BAD_READ
                            : !in(site, 0, 7) ? BAD_SITE
                            : !in(trust, 0, 9) ? BAD_TRUST : 0;
                        due("say(" + read + ", " + site + ", 1, " + trust + ") with " + reads + " reads",
                            silent(reads).say(read, site, 1, trust), want);
                    }
                }
            }
        }
    }

    private static void orderInStretch() {
        for (int reads = 0; reads <= 8; reads++) {
            for (int span = 0; span < 128; span++) {
                for (int trust : ODD) {
                    int want = !fits(span % 8, span / 8) ? BAD_SITE
                        : !in(trust, 1, 9) ? BAD_TRUST
                        : reads == 8 ? FULL : reads;
                    due("stretch(" + span + ", 0, " + trust + ") with " + reads + " reads",
                        silent(reads).stretch(span, 0, trust), want);
                }
            }
        }
    }

    // LANGUAGE.md, rule 7

    private static void nothingThrows() {
        for (int reads = 0; reads <= 8; reads++) {
            // Also far behind its 512th call, where answers are free but no call may throw.
            ReadPhaser worn = loud(reads);
            for (int a : ODD) {
                for (int b : ODD) {
                    callAll(loud(reads), a, b);
                    callAll(worn, a, b);
                }
            }
        }
    }

    private static void callAll(ReadPhaser x, int a, int b) {
        x.say(a, b, a, b);
        x.say(b, a, b, a);
        x.stretch(a, b, a);
        x.stretch(b, a, 1);
        x.costOf(a);
        x.leastWith(a, b, true);
        x.leastWith(a, b, false);
        x.cover(a);
        x.least();
        x.sorting();
        x.ties();
        x.leastForced();
        x.sortingForced();
        x.read();
        x.drop();
    }

    private static void terms() {
        test("Terms, 2 to the number of reads less 1", BoundaryTest::asManySortings);
        test("Terms, the empty one without reads", BoundaryTest::emptySorting);
        test("Terms, The calls below change nothing", BoundaryTest::questionsChangeNothing);
    }

    private static void callsThatChange() {
        test("Promise 1, No reads", BoundaryTest::noReads);
        test("Promise 2, There are eight: FULL, nothing changes", BoundaryTest::readWhenFull);
        test("Promise 2, Else answers its number", BoundaryTest::readAnswersItsNumber);
        test("Promise 3, value & 1 with this trust", BoundaryTest::valueAnd1);
        test("Promise 3, nothing for trust 0", BoundaryTest::trust0IsNothing);
        test("Promise 3, No such read: BAD_READ", BoundaryTest::sayNoSuchRead);
        test("Promise 3, site not in 0 to 7: BAD_SITE", BoundaryTest::sayNoSuchSite);
        test("Promise 3, trust not in 0 to 9: BAD_TRUST", BoundaryTest::sayNoSuchTrust);
        test("Promise 3, nothing changes then", BoundaryTest::sayRefusedChangesNothing);
        test("Promise 3, Else answers the old trust", BoundaryTest::sayAnswersOldTrust);
        test("Promise 4, first, n or first + n: BAD_SITE", BoundaryTest::stretchNoSuchSites);
        test("Promise 4, trust not in 1 to 9: BAD_TRUST", BoundaryTest::stretchNoSuchTrust);
        test("Promise 4, there are eight reads: FULL", BoundaryTest::stretchWhenFull);
        test("Promise 4, nothing changes then", BoundaryTest::stretchRefusedChangesNothing);
        test("Promise 4, Else answers its number", BoundaryTest::stretchAnswersItsNumber);
        test("Promise 4, other bits not looked at", BoundaryTest::otherBitsOfSpan);
        test("Promise 4, bit i for site first + i", BoundaryTest::bitsOfAStretch);
        test("Promise 5, There is none: BAD_READ", BoundaryTest::dropWithoutReads);
        test("Promise 5, Else answers how many are left", BoundaryTest::dropAnswersWhatIsLeft);
    }

    private static void callsThatAsk() {
        test("Promise 6, 0 without reads", BoundaryTest::leastWithoutReads);
        test("Promise 7, The smallest mask", BoundaryTest::smallestMaskOfLeast);
        test("Promise 8, How many sortings", BoundaryTest::asManyAsHaveTheLeast);
        test("Promise 9, bit 0 is not looked at", BoundaryTest::bit0OfCostOf);
        test("Promise 9, bits of reads that don't exist", BoundaryTest::costOfBitsOfNoRead);
        test("Promise 10, The least forced cost", BoundaryTest::leastOfForced);
        test("Promise 11, The smallest mask", BoundaryTest::smallestMaskOfForced);
        test("Promise 12, A read that doesn't exist: BAD_READ", BoundaryTest::leastWithNoSuchRead);
        test("Promise 12, For a == b and apart: BAD_READ", BoundaryTest::leastWithItselfApart);
        test("Promise 12, on the same strand, or on different ones", BoundaryTest::leastWithTwoReads);
        test("Promise 13, How many reads say something", BoundaryTest::coverCounts);
        test("Promise 13, BAD_SITE", BoundaryTest::coverNoSuchSite);
        test("Promise 14, the order in say", BoundaryTest::orderInSay);
        test("Promise 14, the order in stretch", BoundaryTest::orderInStretch);
        test("LANGUAGE.md 7, no call may ever throw", BoundaryTest::nothingThrows);
    }

    public static void main(String[] args) {
        terms();
        callsThatChange();
        callsThatAsk();
        System.out.println(sentences + " sentences tested, " + (wrong == 0 ? "all hold" : wrong + " answers are not as due"));
        if (wrong != 0) {
            System.exit(1);
        }
    }
}
