import java.util.ArrayList;
import java.util.List;
import java.util.Random;

/**
 * Long runs of calls, right and wrong ones, against a second telling of the document that is held
 * another way: a list of reads, each word a signed trust, the costs summed up read by read.
 */
public final class ModelTest {
    private static final int RUNS = 300;
    /** The document says nothing of later calls; a step makes at most five. */
    private static final int MOST_CALLS = 512;
    private static final int MOST_CALLS_IN_A_STEP = 5;

    private static int wrong = 0;

    private final ReadPhaser real = new ReadPhaser();
    /** For each read and site: 0 for nothing, the trust for a said 1, less the trust for a said 0. */
    private final List<int[]> reads = new ArrayList<>();
    private final Random random;
    private final int run;
    private int calls = 0;

    private ModelTest(int run) {
        this.run = run;
        this.random = new Random(run);
    }

    private void due(String call, int got, int want) {
        calls++;
        if (got != want) {
            wrong++;
            System.out.println("run " + run + ": " + call + " answered " + got + ", due is " + want);
        }
    }

    /** Mostly from low to high, at times a little or far outside. */
    private int near(int low, int high) {
        switch (random.nextInt(24)) {
            case 0: return low - 1;
            case 1: return high + 1;
            case 2: return random.nextInt();
            default: return low + random.nextInt(high - low + 1);
        }
    }

    private static boolean in(int n, int low, int high) {
        return low <= n && n <= high;
    }

    private int read() {
        if (reads.size() == 8) {
            return ReadPhaser.FULL;
        }
        reads.add(new int[8]);
        return reads.size() - 1;
    }

    private int say(int read, int site, int value, int trust) {
        if (!in(read, 0, reads.size() - 1)) {
            return ReadPhaser.BAD_READ;
        }
        if (!in(site, 0, 7)) {
            return ReadPhaser.BAD_SITE;
        }
        if (!in(trust, 0, 9)) {
            return ReadPhaser.BAD_TRUST;
        }
        int[] words = reads.get(read);
        int old = Math.abs(words[site]);
        words[site] = value % 2 == 0 ? -trust : trust;
        return old;
    }

    private int stretch(int span, int bits, int trust) {
        int first = Math.floorMod(span, 8);
        int n = Math.floorMod(Math.floorDiv(span, 8), 16);
        if (!in(n, 1, 8) || first + n > 8) {
            return ReadPhaser.BAD_SITE;
        }
        if (!in(trust, 1, 9)) {
            return ReadPhaser.BAD_TRUST;
        }
        if (reads.size() == 8) {
            return ReadPhaser.FULL;
        }
        int[] words = new int[8];
        for (int i = 0; i < n; i++) {
            words[first + i] = (bits & 1 << i) == 0 ? -trust : trust;
        }
        reads.add(words);
        return reads.size() - 1;
    }

    private int drop() {
        if (reads.isEmpty()) {
            return ReadPhaser.BAD_READ;
        }
        reads.remove(reads.size() - 1);
        return reads.size();
    }

    private boolean onB(int mask, int read) {
        return read != 0 && (mask & 1 << read) != 0;
    }

    private int cost(int mask) {
        int[] said0 = new int[16];
        int[] said1 = new int[16];
        for (int r = 0; r < reads.size(); r++) {
            for (int site = 0; site < 8; site++) {
                int at = onB(mask, r) ? 8 + site : site;
                int word = reads.get(r)[site];
                said0[at] += Math.max(0, -word);
                said1[at] += Math.max(0, word);
            }
        }
        return sumOfSmaller(said0, said1);
    }

    private int forcedCost(int mask) {
        int[] said0 = new int[8];
        int[] said1 = new int[8];
        for (int r = 0; r < reads.size(); r++) {
            for (int site = 0; site < 8; site++) {
                int word = onB(mask, r) ? -reads.get(r)[site] : reads.get(r)[site];
                said0[site] += Math.max(0, -word);
                said1[site] += Math.max(0, word);
            }
        }
        return sumOfSmaller(said0, said1);
    }

    private static int sumOfSmaller(int[] some, int[] others) {
        int sum = 0;
        for (int i = 0; i < some.length; i++) {
            sum += Math.min(some[i], others[i]);
        }
        return sum;
    }

    private List<Integer> masks() {
        List<Integer> masks = new ArrayList<>();
        masks.add(0);
        for (int r = 1; r < reads.size(); r++) {
            for (int mask : List.copyOf(masks)) {
                masks.add(mask | 1 << r);
            }
        }
        return masks;
    }

    private void compareCosts() {
        int least = masks().stream().mapToInt(this::cost).min().getAsInt();
        int forced = masks().stream().mapToInt(this::forcedCost).min().getAsInt();
        due("least()", real.least(), least);
        due("sorting()", real.sorting(), masks().stream().mapToInt(m -> m).filter(m -> cost(m) == least).min().getAsInt());
        due("ties()", real.ties(), (int) masks().stream().filter(m -> cost(m) == least).count());
        due("leastForced()", real.leastForced(), forced);
        due("sortingForced()", real.sortingForced(),
            masks().stream().mapToInt(m -> m).filter(m -> forcedCost(m) == forced).min().getAsInt());
    }

    private void compareCostOf() {
        int mask = random.nextBoolean() ? random.nextInt(256) : random.nextInt();
        due("costOf(" + mask + ")", real.costOf(mask), cost(mask));
    }

    private void compareLeastWith() {
        int a = near(0, Math.max(0, reads.size() - 1));
        int b = near(0, Math.max(0, reads.size() - 1));
        boolean apart = random.nextBoolean();
        boolean exist = in(a, 0, reads.size() - 1) && in(b, 0, reads.size() - 1);
        int want = !exist ? ReadPhaser.BAD_READ
            : masks().stream().filter(m -> (onB(m, a) != onB(m, b)) == apart).mapToInt(this::cost).min()
                .orElse(ReadPhaser.BAD_READ);
        due("leastWith(" + a + ", " + b + ", " + apart + ")", real.leastWith(a, b, apart), want);
    }

    private void compareCover() {
        int site = near(0, 7);
        int want = !in(site, 0, 7) ? ReadPhaser.BAD_SITE
            : (int) reads.stream().filter(words -> words[site] != 0).count();
        due("cover(" + site + ")", real.cover(site), want);
    }

    private void compareSay() {
        int read = near(0, Math.max(0, reads.size() - 1));
        int site = near(0, 7);
        int value = near(0, 1);
        int trust = near(0, 9);
        due("say(" + read + ", " + site + ", " + value + ", " + trust + ")",
            real.say(read, site, value, trust), say(read, site, value, trust));
    }

    private void compareStretch() {
        int first = random.nextInt(8);
        int span = random.nextInt(4) == 0 ? random.nextInt() : first + 8 * (1 + random.nextInt(8 - first));
        int bits = random.nextInt();
        int trust = near(1, 9);
        due("stretch(" + span + ", " + bits + ", " + trust + ")",
            real.stretch(span, bits, trust), stretch(span, bits, trust));
    }

    private void step() {
        switch (random.nextInt(16)) {
            case 0: due("read()", real.read(), read()); break;
            case 1: case 2: compareStretch(); break;
            case 3: due("drop()", real.drop(), drop()); break;
            case 4: case 5: case 6: case 7: case 8: compareSay(); break;
            case 9: compareCosts(); break;
            case 10: case 11: compareCostOf(); break;
            case 12: case 13: compareLeastWith(); break;
            default: compareCover();
        }
    }

    public static void main(String[] args) {
        for (int run = 1; run <= RUNS; run++) {
            ModelTest test = new ModelTest(run);
            while (test.calls + MOST_CALLS_IN_A_STEP <= MOST_CALLS) {
                test.step();
            }
        }
        System.out.println(wrong == 0 ? "all answers are as due" : wrong + " answers are not as due");
        if (wrong != 0) {
            System.exit(1);
        }
    }
}
