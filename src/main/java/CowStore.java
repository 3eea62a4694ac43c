public final class CowStore {
    public static final int BAD = -1, FULL = -2;
    public static final long NONE = 1000000000000L, BROKEN = 1000000000001L;

    private static final int VOLUMES = 6;
    private static final int PLACES = 64;
    private static final int ALL_PLACES = 384;
    private static final int BLOCKS = 80;
    private static final int DISKS = 2;
    private static final int ALL_COPIES = 160;
    private static final int EMPTY = -1;
    private static final int NO_VOLUME = -1;
    private static final int HEALED_MODULUS = 1000000;
    private static final int FIRST_BROKEN_ANSWER = -3;
    private static final long NO_ENTRY = BROKEN + 100;

    private final boolean[] there = new boolean[VOLUMES];
    private final boolean[] writable = new boolean[VOLUMES];

    // Volume v has its places from v * PLACES on. A volume that is not there
    // has all of them EMPTY, so that counts over all places need not ask.
    private final int[] blocks = new int[ALL_PLACES];

    // Kept beside the places so that asking whether a block is FREE is cheap.
    private final int[] holderCount = new int[BLOCKS];
    private final int[] values = new int[BLOCKS];

    // Disk d has its copies from d * BLOCKS on. Those of a FREE block mean
    // nothing: a WRITE sets both before they are looked at again.
    private final boolean[] good = new boolean[ALL_COPIES];
    private final boolean[] lost = new boolean[DISKS];

    private int scrubBlock = 0;
    private int healedSoFar = 0;

    private final int[] streamPlaces = new int[PLACES];
    private final int[] streamValues = new int[PLACES];
    private final boolean[] streamHasValue = new boolean[PLACES];
    private int streamLength = 0;

    // What share reads before it changes anything, as its two ranges may overlap.
    private final int[] shared = new int[PLACES];

    public CowStore() {
        for (int i = 0; i < ALL_PLACES; i++) {
            blocks[i] = EMPTY;
        }
    }

    public int create() {
        int v = leastAbsentVolume();
        if (v == NO_VOLUME) {
            return FULL;
        }
        there[v] = true;
        writable[v] = true;
        return v;
    }

    public int snapshot(int v, boolean frozen) {
        if (!isThere(v)) {
            return BAD;
        }
        int made = leastAbsentVolume();
        if (made == NO_VOLUME) {
            return FULL;
        }
        there[made] = true;
        writable[made] = !frozen;
        for (int p = 0; p < PLACES; p++) {
            putBlock(made, p, blocks[v * PLACES + p]);
        }
        return made;
    }

    public int destroy(int v) {
        if (!isThere(v)) {
            return BAD;
        }
        int freed = 0;
        for (int p = 0; p < PLACES; p++) {
            freed += putBlock(v, p, EMPTY);
        }
        there[v] = false;
        return freed;
    }

    public int write(int v, int p, int x) {
        if (!isWritable(v) || !isPlace(p)) {
            return BAD;
        }
        return writeValue(v, p, x);
    }

    public int punch(int v, int p) {
        if (!isWritable(v) || !isPlace(p)) {
            return BAD;
        }
        return putBlock(v, p, EMPTY);
    }

    public int share(int v, int p, int w, int q, int n) {
        if (!isThere(v) || !isWritable(w) || !isRange(p, n) || !isRange(q, n)) {
            return BAD;
        }
        for (int i = 0; i < n; i++) {
            shared[i] = blocks[v * PLACES + p + i];
        }
        int changed = 0;
        for (int i = 0; i < n; i++) {
            if (blocks[w * PLACES + q + i] != shared[i]) {
                changed++;
                putBlock(w, q + i, shared[i]);
            }
        }
        return changed;
    }

    public long read(int v, int p) {
        int block = blockOrEmpty(v, p);
        if (block == EMPTY) {
            return NONE;
        }
        lookAt(block);
        return isBroken(block) ? BROKEN : values[block];
    }

    public int blockAt(int v, int p) {
        return blockOrEmpty(v, p);
    }

    public boolean spoil(int disk, int block) {
        if (!isDisk(disk) || !isUsed(block)) {
            return false;
        }
        boolean wasGood = good[disk * BLOCKS + block];
        good[disk * BLOCKS + block] = false;
        return wasGood;
    }

    public int lose(int disk) {
        if (!isDisk(disk) || lost[disk]) {
            return BAD;
        }
        lost[disk] = true;
        int spoiled = 0;
        for (int block = 0; block < BLOCKS; block++) {
            if (isUsed(block) && good[disk * BLOCKS + block]) {
                good[disk * BLOCKS + block] = false;
                spoiled++;
            }
        }
        return spoiled;
    }

    public boolean replace(int disk) {
        if (!isDisk(disk) || !lost[disk]) {
            return false;
        }
        lost[disk] = false;
        return true;
    }

    public int scrub(int n) {
        if (n < 0 || n > BLOCKS) {
            return BAD;
        }
        int healed = 0;
        for (int i = 0; i < n; i++) {
            if (isUsed(scrubBlock)) {
                healed += lookAt(scrubBlock);
            }
            scrubBlock = (scrubBlock + 1) % BLOCKS;
        }
        return healed;
    }

    public int count(int what) {
        switch (what) {
            case 0:
                return countUsed();
            case 1:
                return countBroken();
            case 2:
                return countBadCopies();
            case 3:
                return healedSoFar;
            case 4:
                return scrubBlock;
            case 5:
                return streamLength;
            default:
                return BAD;
        }
    }

    public int holders(int block) {
        return isUsed(block) ? holderCount[block] : 0;
    }

    public int own(int v) {
        if (!isThere(v)) {
            return BAD;
        }
        int owned = 0;
        for (int block = 0; block < BLOCKS; block++) {
            if (isUsed(block) && holdersWithin(v, block) == holderCount[block]) {
                owned++;
            }
        }
        return owned;
    }

    public int differ(int v, int w) {
        if (!isThere(v) || !isThere(w)) {
            return BAD;
        }
        int different = 0;
        for (int p = 0; p < PLACES; p++) {
            if (blocks[v * PLACES + p] != blocks[w * PLACES + p]) {
                different++;
            }
        }
        return different;
    }

    public int difference(int v, int w, int k) {
        if (!isThere(v) || !isThere(w)) {
            return -1;
        }
        int seen = 0;
        for (int p = 0; p < PLACES; p++) {
            if (blocks[v * PLACES + p] != blocks[w * PLACES + p]) {
                if (seen == k) {
                    return p;
                }
                seen++;
            }
        }
        return -1;
    }

    public int send(int v, int w) {
        if (!isThere(v) || (w != NO_VOLUME && !isThere(w))) {
            return BAD;
        }
        streamLength = 0;
        for (int p = 0; p < PLACES; p++) {
            int block = blocks[v * PLACES + p];
            // Against no volume every place counts as EMPTY on the other side.
            int other = blockOrEmpty(w, p);
            if (block != other && !appendEntry(p, block)) {
                streamLength = 0;
                return FIRST_BROKEN_ANSWER - p;
            }
        }
        return streamLength;
    }

    public int receive(int v) {
        if (!isWritable(v)) {
            return BAD;
        }
        for (int k = 0; k < streamLength; k++) {
            if (!streamHasValue[k]) {
                putBlock(v, streamPlaces[k], EMPTY);
            } else if (writeValue(v, streamPlaces[k], streamValues[k]) == FULL) {
                return k;
            }
        }
        return streamLength;
    }

    public long entry(int k) {
        if (k < 0 || k >= streamLength) {
            return NO_ENTRY;
        }
        if (!streamHasValue[k]) {
            return NONE + streamPlaces[k];
        }
        return streamPlaces[k] + 64L * streamValues[k];
    }

    private static boolean isPlace(int p) {
        return p >= 0 && p < PLACES;
    }

    private static boolean isDisk(int disk) {
        return disk >= 0 && disk < DISKS;
    }

    // n is looked at first, so that PLACES - n can't wrap around.
    private static boolean isRange(int first, int n) {
        return n >= 0 && n <= PLACES && first >= 0 && first <= PLACES - n;
    }

    private boolean isThere(int v) {
        return v >= 0 && v < VOLUMES && there[v];
    }

    private boolean isWritable(int v) {
        return isThere(v) && writable[v];
    }

    private boolean isUsed(int block) {
        return block >= 0 && block < BLOCKS && holderCount[block] > 0;
    }

    private boolean isBroken(int block) {
        return !good[block] && !good[BLOCKS + block];
    }

    private int leastAbsentVolume() {
        for (int v = 0; v < VOLUMES; v++) {
            if (!there[v]) {
                return v;
            }
        }
        return NO_VOLUME;
    }

    private int leastFreeBlock() {
        for (int block = 0; block < BLOCKS; block++) {
            if (holderCount[block] == 0) {
                return block;
            }
        }
        return FULL;
    }

    private int blockOrEmpty(int v, int p) {
        return isThere(v) && isPlace(p) ? blocks[v * PLACES + p] : EMPTY;
    }

    /** Answers how many blocks became FREE by that. */
    private int putBlock(int v, int p, int block) {
        int before = blocks[v * PLACES + p];
        // The new holder counts first: a block put where it is never gets FREE.
        if (block != EMPTY) {
            holderCount[block]++;
        }
        blocks[v * PLACES + p] = block;
        if (before == EMPTY) {
            return 0;
        }
        holderCount[before]--;
        return holderCount[before] == 0 ? 1 : 0;
    }

    private int writeValue(int v, int p, int x) {
        int block = leastFreeBlock();
        if (block == FULL) {
            return FULL;
        }
        values[block] = x;
        for (int disk = 0; disk < DISKS; disk++) {
            good[disk * BLOCKS + block] = !lost[disk];
        }
        putBlock(v, p, block);
        return block;
    }

    /** Answers how many copies were HEALED. */
    private int lookAt(int block) {
        if (good[block] == good[BLOCKS + block]) {
            return 0;
        }
        int badDisk = good[block] ? 1 : 0;
        if (lost[badDisk]) {
            return 0;
        }
        good[badDisk * BLOCKS + block] = true;
        healedSoFar = (healedSoFar + 1) % HEALED_MODULUS;
        return 1;
    }

    /** Answers false, and appends nothing, if the block is BROKEN. */
    private boolean appendEntry(int p, int block) {
        boolean hasValue = block != EMPTY;
        if (hasValue) {
            lookAt(block);
            if (isBroken(block)) {
                return false;
            }
            streamValues[streamLength] = values[block];
        }
        streamPlaces[streamLength] = p;
        streamHasValue[streamLength] = hasValue;
        streamLength++;
        return true;
    }

    private int holdersWithin(int v, int block) {
        int found = 0;
        for (int p = 0; p < PLACES; p++) {
            if (blocks[v * PLACES + p] == block) {
                found++;
            }
        }
        return found;
    }

    private int countUsed() {
        int used = 0;
        for (int block = 0; block < BLOCKS; block++) {
            if (isUsed(block)) {
                used++;
            }
        }
        return used;
    }

    private int countBroken() {
        int broken = 0;
        for (int block = 0; block < BLOCKS; block++) {
            if (isUsed(block) && isBroken(block)) {
                broken++;
            }
        }
        return broken;
    }

    private int countBadCopies() {
        int bad = 0;
        for (int block = 0; block < BLOCKS; block++) {
            for (int disk = 0; disk < DISKS; disk++) {
                if (isUsed(block) && !good[disk * BLOCKS + block]) {
                    bad++;
                }
            }
        }
        return bad;
    }
}
