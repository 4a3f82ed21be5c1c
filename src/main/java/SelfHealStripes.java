/**
 * Extents of up to four words that are kept with parity on five disks, read right although a
 * stored part was damaged, and rebuilt when a disk is lost.
 *
 * What holds between calls: the exclusive-or of all columns of a present extent is the mask of
 * its damage, so it is 0 exactly if all columns are sound, and any one column is the
 * exclusive-or of the others once it has to be rebuilt.
 */
public final class SelfHealStripes {
    public static final int BAD_ARG = -1;
    public static final int FULL = -2;
    public static final int ABSENT = -3;
    public static final int DAMAGED = -4;

    private static final int ALL_SOUND = -5;
    private static final int EXTENTS = 8;
    private static final int DISKS = 5;
    private static final int MAX_WORDS = 4;
    private static final int CELLS = EXTENTS * DISKS;

    private final int[] draftWords = new int[MAX_WORDS];
    private int draftSize;

    // A size of 0 is an absent extent: a present one has at least one word.
    private final int[] sizes = new int[EXTENTS];

    // Parity tells that a column is damaged but not which one, so this is kept beside it.
    // An absent extent has ALL_SOUND here, so that no loop has to leave it out.
    private final int[] damagedColumns = new int[EXTENTS];

    // Column c of an extent is on disk c, as it was stored and then damaged.
    private final int[] cells = new int[CELLS];

    private int healedCount;

    public SelfHealStripes() {
        draftSize = 0;
        healedCount = 0;
        for (int e = 0; e < EXTENTS; e++) {
            sizes[e] = 0;
            damagedColumns[e] = ALL_SOUND;
        }
    }

    public int draft(int word) {
        if (draftSize >= MAX_WORDS) {
            return FULL;
        }
        draftWords[draftSize] = word;
        draftSize++;
        return draftSize;
    }

    public void scrap() {
        draftSize = 0;
    }

    public int put(int e) {
        if (!isExtent(e)) {
            return BAD_ARG;
        }
        if (draftSize == 0) {
            return ABSENT;
        }
        for (int i = 0; i < draftSize; i++) {
            cells[cellOf(e, i)] = draftWords[i];
        }
        sizes[e] = draftSize;
        damagedColumns[e] = ALL_SOUND;
        int parity = parityColumn(e);
        rebuildColumn(e, parity);
        draftSize = 0;
        return sizes[e];
    }

    public int delete(int e) {
        if (!isExtent(e)) {
            return BAD_ARG;
        }
        if (isAbsent(e)) {
            return ABSENT;
        }
        int had = sizes[e];
        sizes[e] = 0;
        damagedColumns[e] = ALL_SOUND;
        return had;
    }

    public int size(int e) {
        return isExtent(e) ? sizes[e] : BAD_ARG;
    }

    public int read(int e, int i) {
        if (!isExtent(e) || i < 0 || i >= sizes[e]) {
            return 0;
        }
        // No word is taken from the parity column here, so a read leaves damage in it alone.
        if (hasDamage(e) && damagedColumns[e] != parityColumn(e)) {
            heal(e);
        }
        return cells[cellOf(e, i)];
    }

    public int damage(int e, int c, int mask) {
        if (!isExtent(e)) {
            return BAD_ARG;
        }
        if (isAbsent(e)) {
            return ABSENT;
        }
        if (c < 0 || c > parityColumn(e)) {
            return BAD_ARG;
        }
        if (hasDamage(e) && damagedColumns[e] != c) {
            return DAMAGED;
        }
        cells[cellOf(e, c)] ^= mask;
        boolean sound = cells[cellOf(e, c)] == soundColumn(e, c);
        damagedColumns[e] = sound ? ALL_SOUND : c;
        return sound ? 0 : 1;
    }

    public int damaged(int e) {
        if (!isExtent(e)) {
            return BAD_ARG;
        }
        return isAbsent(e) ? ABSENT : damagedColumns[e];
    }

    public int scrub() {
        int found = 0;
        for (int e = 0; e < EXTENTS; e++) {
            if (hasDamage(e)) {
                heal(e);
                found++;
            }
        }
        return found;
    }

    public int healed() {
        return healedCount;
    }

    public int lose(int d) {
        if (d < 0 || d >= DISKS) {
            return BAD_ARG;
        }
        if (anyDamage()) {
            return DAMAGED;
        }
        for (int e = 0; e < EXTENTS; e++) {
            cells[cellOf(e, d)] = 0;
            if (!isAbsent(e) && d <= parityColumn(e)) {
                rebuildColumn(e, d);
            }
        }
        return 0;
    }

    public int copy(int from, int to) {
        if (!isExtent(from) || !isExtent(to)) {
            return BAD_ARG;
        }
        if (hasDamage(from)) {
            return DAMAGED;
        }
        for (int c = 0; c < DISKS; c++) {
            cells[cellOf(to, c)] = cells[cellOf(from, c)];
        }
        sizes[to] = sizes[from];
        damagedColumns[to] = ALL_SOUND;
        return sizes[to];
    }

    public int digest(int e) {
        if (!isExtent(e)) {
            return 0;
        }
        int sum = 0;
        for (int i = 0; i < sizes[e]; i++) {
            // Rebuilt in passing and not stored: a digest heals nothing.
            int word = damagedColumns[e] == i ? soundColumn(e, i) : cells[cellOf(e, i)];
            sum += (i + 1) * word;
        }
        return sum;
    }

    private boolean isExtent(int e) {
        return e >= 0 && e < EXTENTS;
    }

    private boolean isAbsent(int e) {
        return sizes[e] == 0;
    }

    private boolean hasDamage(int e) {
        return damagedColumns[e] != ALL_SOUND;
    }

    private boolean anyDamage() {
        for (int e = 0; e < EXTENTS; e++) {
            if (hasDamage(e)) {
                return true;
            }
        }
        return false;
    }

    private int parityColumn(int e) {
        return sizes[e];
    }

    private int cellOf(int e, int c) {
        return e * DISKS + c;
    }

    // Right only while the other columns are sound, which holds for the one column that may be
    // damaged and for every column if none is.
    private int soundColumn(int e, int c) {
        int value = 0;
        int parity = parityColumn(e);
        for (int other = 0; other <= parity; other++) {
            if (other != c) {
                value ^= cells[cellOf(e, other)];
            }
        }
        return value;
    }

    private void rebuildColumn(int e, int c) {
        cells[cellOf(e, c)] = soundColumn(e, c);
    }

    private void heal(int e) {
        rebuildColumn(e, damagedColumns[e]);
        damagedColumns[e] = ALL_SOUND;
        healedCount++;
    }
}
