public final class ChangedBlocks {
    public static final int BAD_CHAIN = -1;
    public static final int BAD_BLOCK = -2;
    public static final int CHAIN_FULL = -3;
    public static final int NO_BACKUP = -4;

    private static final int BLOCKS = 16;
    private static final int CHAINS = 2;
    private static final int MOST_BACKUPS = 6;
    private static final int CHAIN_CELLS = MOST_BACKUPS * BLOCKS;
    private static final int ALL_CELLS = CHAINS * CHAIN_CELLS;

    private final int[] disk = new int[BLOCKS];

    // Whole images, so that no backup depends on another one: dropping one can't
    // harm its neighbours, and there is no knowledge of changes for a crash to lose.
    private final int[] images = new int[ALL_CELLS];

    private final int[] counts = new int[CHAINS];

    public ChangedBlocks() {
    }

    public int write(int block, int value) {
        if (!isBlock(block)) {
            return BAD_BLOCK;
        }
        disk[block] = value;
        return 0;
    }

    public int copy(int from, int to, int n) {
        int length = n < 0 ? 0 : n;
        if (!isBlock(from) || !isBlock(to)) {
            return BAD_BLOCK;
        }
        // Not from + length > BLOCKS: that sum can wrap around.
        if (length > BLOCKS - from || length > BLOCKS - to) {
            return BAD_BLOCK;
        }
        if (to < from) {
            copyUpwards(from, to, length);
        } else {
            copyDownwards(from, to, length);
        }
        return length;
    }

    public int backup(int chain) {
        if (!isChain(chain)) {
            return BAD_CHAIN;
        }
        int number = counts[chain];
        if (number >= MOST_BACKUPS) {
            return CHAIN_FULL;
        }
        int start = imageStart(chain, number);
        for (int block = 0; block < BLOCKS; block++) {
            images[start + block] = disk[block];
        }
        counts[chain] = number + 1;
        return number;
    }

    public int restore(int chain, int k) {
        if (!isChain(chain)) {
            return BAD_CHAIN;
        }
        if (!isBackup(chain, k)) {
            return NO_BACKUP;
        }
        int changes = countChanges(chain, k);
        int start = imageStart(chain, k);
        for (int block = 0; block < BLOCKS; block++) {
            disk[block] = images[start + block];
        }
        return changes;
    }

    public int dropOldest(int chain) {
        return remove(chain, 0);
    }

    public int drop(int chain, int k) {
        return remove(chain, k);
    }

    // Empty, as nothing here is lost or put in order by a stop.
    public void restart() {
    }

    // Empty for the same reason as restart.
    public void crash() {
    }

    public int read(int block) {
        return isBlock(block) ? disk[block] : 0;
    }

    public int readBackup(int chain, int k, int block) {
        if (!isChain(chain) || !isBackup(chain, k) || !isBlock(block)) {
            return 0;
        }
        int start = imageStart(chain, k);
        return images[start + block];
    }

    public int backups(int chain) {
        return isChain(chain) ? counts[chain] : BAD_CHAIN;
    }

    public int changed(int chain) {
        if (!isChain(chain)) {
            return BAD_CHAIN;
        }
        int newest = counts[chain] - 1;
        if (newest < 0) {
            return NO_BACKUP;
        }
        return countChanges(chain, newest);
    }

    public int differ(int chain, int j, int k) {
        if (!isChain(chain)) {
            return BAD_CHAIN;
        }
        if (!isBackup(chain, j) || !isBackup(chain, k)) {
            return NO_BACKUP;
        }
        int startJ = imageStart(chain, j);
        int startK = imageStart(chain, k);
        int differing = 0;
        for (int block = 0; block < BLOCKS; block++) {
            if (images[startJ + block] != images[startK + block]) {
                differing++;
            }
        }
        return differing;
    }

    private static boolean isBlock(int block) {
        return block >= 0 && block < BLOCKS;
    }

    private static boolean isChain(int chain) {
        return chain >= 0 && chain < CHAINS;
    }

    // For a chain that isChain has let through.
    private boolean isBackup(int chain, int k) {
        return k >= 0 && k < counts[chain];
    }

    private static int imageStart(int chain, int k) {
        return chain * CHAIN_CELLS + k * BLOCKS;
    }

    // Each direction reads a block of an overlap before it is written over.
    private void copyUpwards(int from, int to, int length) {
        for (int i = 0; i < length; i++) {
            disk[to + i] = disk[from + i];
        }
    }

    private void copyDownwards(int from, int to, int length) {
        for (int i = length - 1; i >= 0; i--) {
            disk[to + i] = disk[from + i];
        }
    }

    private int countChanges(int chain, int k) {
        int start = imageStart(chain, k);
        int changes = 0;
        for (int block = 0; block < BLOCKS; block++) {
            if (disk[block] != images[start + block]) {
                changes++;
            }
        }
        return changes;
    }

    private int remove(int chain, int k) {
        if (!isChain(chain)) {
            return BAD_CHAIN;
        }
        if (!isBackup(chain, k)) {
            return NO_BACKUP;
        }
        int left = counts[chain] - 1;
        int end = imageStart(chain, left);
        for (int cell = imageStart(chain, k); cell < end; cell++) {
            images[cell] = images[cell + BLOCKS];
        }
        counts[chain] = left;
        return left;
    }
}
