/** Reads of a pair of strands, to be sorted out. */
public final class ReadPhaser {
    public static final int BAD_READ = -1;
    public static final int BAD_SITE = -2;
    public static final int BAD_TRUST = -3;
    public static final int FULL = -4;

    private static final int SITES = 8;
    private static final int MAX_READS = 8;
    private static final int MAX_TRUST = 9;
    private static final int CELLS = 64;

    // One cell for each read and site, at read * SITES + site.
    // A trust of 0 stands for "says nothing"; the value does not count then.
    private final int[] trusts = new int[CELLS];
    private final int[] values = new int[CELLS];
    private int reads;

    public ReadPhaser() {
        reads = 0;
    }

    public int read() {
        if (reads >= MAX_READS) {
            return FULL;
        }
        return addSilentRead();
    }

    public int say(int read, int site, int value, int trust) {
        if (!isRead(read)) {
            return BAD_READ;
        }
        if (!isSite(site)) {
            return BAD_SITE;
        }
        if (trust < 0 || trust > MAX_TRUST) {
            return BAD_TRUST;
        }
        int cell = read * SITES + site;
        int oldTrust = trusts[cell];
        values[cell] = value & 1;
        trusts[cell] = trust;
        return oldTrust;
    }

    public int stretch(int span, int bits, int trust) {
        int first = span & 7;
        int count = (span >> 3) & 15;
        if (count < 1 || first + count > SITES) {
            return BAD_SITE;
        }
        if (trust < 1 || trust > MAX_TRUST) {
            return BAD_TRUST;
        }
        if (reads >= MAX_READS) {
            return FULL;
        }
        int added = addSilentRead();
        int start = added * SITES + first;
        for (int i = 0; i < count; i++) {
            values[start + i] = (bits >> i) & 1;
            trusts[start + i] = trust;
        }
        return added;
    }

    public int drop() {
        if (reads == 0) {
            return BAD_READ;
        }
        reads--;
        return reads;
    }

    public int least() {
        return leastCost(false);
    }

    public int sorting() {
        return smallestBestMask(false);
    }

    public int ties() {
        int best = leastCost(false);
        int end = 1 << reads;
        int count = 0;
        for (int mask = 0; mask < end; mask += 2) {
            if (cost(mask, false) == best) {
                count++;
            }
        }
        return count;
    }

    public int costOf(int mask) {
        // Read 0 is on strand A in every sorting that is looked at.
        return cost(mask & ~1, false);
    }

    public int leastForced() {
        return leastCost(true);
    }

    public int sortingForced() {
        return smallestBestMask(true);
    }

    public int leastWith(int a, int b, boolean apart) {
        if (!isRead(a) || !isRead(b)) {
            return BAD_READ;
        }
        // Stays if no sorting fits, which is so for a == b and apart alone.
        int best = BAD_READ;
        int end = 1 << reads;
        for (int mask = 0; mask < end; mask += 2) {
            boolean differ = strandOf(mask, a) != strandOf(mask, b);
            if (differ == apart) {
                int here = cost(mask, false);
                if (best == BAD_READ || here < best) {
                    best = here;
                }
            }
        }
        return best;
    }

    public int cover(int site) {
        if (!isSite(site)) {
            return BAD_SITE;
        }
        int count = 0;
        for (int r = 0; r < reads; r++) {
            if (trusts[r * SITES + site] > 0) {
                count++;
            }
        }
        return count;
    }

    private boolean isRead(int number) {
        return number >= 0 && number < reads;
    }

    private static boolean isSite(int number) {
        return number >= 0 && number < SITES;
    }

    // The caller has made sure that there is room.
    private int addSilentRead() {
        int added = reads;
        // A read that was dropped may have left its words in these cells.
        for (int site = 0; site < SITES; site++) {
            trusts[added * SITES + site] = 0;
            values[added * SITES + site] = 0;
        }
        reads++;
        return added;
    }

    // Masks go up by 2, so that read 0 stays on strand A; without reads the
    // bound is 1 and the empty sorting alone is looked at.
    private int leastCost(boolean forced) {
        int best = cost(0, forced);
        int end = 1 << reads;
        for (int mask = 2; mask < end; mask += 2) {
            int here = cost(mask, forced);
            if (here < best) {
                best = here;
            }
        }
        return best;
    }

    private int smallestBestMask(boolean forced) {
        int best = cost(0, forced);
        int bestMask = 0;
        int end = 1 << reads;
        for (int mask = 2; mask < end; mask += 2) {
            int here = cost(mask, forced);
            if (here < best) {
                best = here;
                bestMask = mask;
            }
        }
        return bestMask;
    }

    private int cost(int mask, boolean forced) {
        int sum = 0;
        for (int site = 0; site < SITES; site++) {
            int a0 = trustAt(site, mask, 0, 0);
            int a1 = trustAt(site, mask, 0, 1);
            int b0 = trustAt(site, mask, 1, 0);
            int b1 = trustAt(site, mask, 1, 1);
            if (forced) {
                sum += smaller(a0 + b1, a1 + b0);
            } else {
                sum += smaller(a0, a1) + smaller(b0, b1);
            }
        }
        return sum;
    }

    // The trust of a strand's reads that say this value at the site.
    private int trustAt(int site, int mask, int strand, int value) {
        int sum = 0;
        for (int r = 0; r < reads; r++) {
            int cell = r * SITES + site;
            if (strandOf(mask, r) == strand && values[cell] == value) {
                sum += trusts[cell];
            }
        }
        return sum;
    }

    // 0 for strand A, 1 for strand B.
    private static int strandOf(int mask, int read) {
        return (mask >> read) & 1;
    }

    private static int smaller(int x, int y) {
        return x < y ? x : y;
    }
}
