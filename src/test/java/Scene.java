import java.util.Arrays;
import java.util.function.ToIntFunction;

/**
 * A known state of an object: how to reach it, and a look that shows every part of it. With it a
 * test tells that a call has changed nothing.
 */
final class Scene {
    private static final int EXTENTS = 8;
    private static final int MAX_WORDS = 4;
    private static final int HEALED = 2;

    static final int NEVER_PRESENT = 4;
    // Deleted while it was damaged, so that something may have been left behind in it.
    static final int DELETED = 5;
    static final int[] PRESENT = {0, 1, 2, 3, 6, 7};
    static final int[] ONE_OF_EACH_SIZE = {1, 3, 2, 0};

    private final int[][] words = {
        {11, -22, Integer.MAX_VALUE, Integer.MIN_VALUE}, {5}, {7, 0, -7},
        {Integer.MIN_VALUE, Integer.MIN_VALUE}, {}, {}, {0, 0, 0, 0}, {1, 2, 3, 4}
    };
    private final int[] columns = new int[EXTENTS];
    private final int[] masks = new int[EXTENTS];
    private int[] draft = {31, 32};

    private Scene() {
        Arrays.fill(columns, Check.ALL_SOUND);
    }

    /** Extents of every size, one never present, one deleted; all columns sound; two words drafted. */
    static Scene sound() {
        return new Scene();
    }

    /** The same with damaged words in extents 2 and 7 and damaged parity in extents 3 and 6. */
    static Scene worn() {
        return sound().damaged(2, 1, 0x55).damaged(3, 2, Integer.MIN_VALUE).damaged(6, 4, 1).damaged(7, 0, -1);
    }

    Scene damaged(int e, int column, int mask) {
        columns[e] = column;
        masks[e] = mask;
        return this;
    }

    Scene drafted(int... draftWords) {
        draft = draftWords;
        return this;
    }

    int size(int e) {
        return words[e].length;
    }

    int damagedColumn(int e) {
        return columns[e];
    }

    boolean hasDamage(int e) {
        return masks[e] != 0;
    }

    SelfHealStripes make() {
        SelfHealStripes x = Check.fresh();
        Check.store(x, DELETED, -1, -2, -3, -4);
        for (int i = 0; i < HEALED; i++) {
            Check.due("scene: damage", x.damage(DELETED, i, 9), 1);
            Check.due("scene: read", x.read(DELETED, 0), -1);
        }
        Check.due("scene: damage", x.damage(DELETED, 2, 9), 1);
        Check.due("scene: delete", x.delete(DELETED), 4);
        for (int e = 0; e < EXTENTS; e++) {
            if (words[e].length > 0) {
                Check.store(x, e, words[e]);
            }
            if (hasDamage(e)) {
                Check.due("scene: damage", x.damage(e, columns[e], masks[e]), 1);
            }
        }
        for (int i = 0; i < draft.length; i++) {
            Check.due("scene: draft", x.draft(draft[i]), i + 1);
        }
        return x;
    }

    /** The call answers as due, and afterwards everything is as it was. */
    void changesNothing(String call, int want, ToIntFunction<SelfHealStripes> made) {
        SelfHealStripes x = make();
        Check.due(call, made.applyAsInt(x), want);
        isSeenIn("after " + call, x);
    }

    /** Uses the object up: no scene is to be seen in it a second time. */
    void isSeenIn(String when, SelfHealStripes x) {
        for (int e = 0; e < EXTENTS; e++) {
            Check.holds(when, x, e, columns[e], words[e]);
        }
        Check.due(when + ": healed()", x.healed(), HEALED);
        for (int e = 0; e < EXTENTS; e++) {
            if (hasDamage(e)) {
                Check.due(when + ": the mask in extent " + e, x.damage(e, columns[e], masks[e]), 0);
            }
            Check.holds(when + ", undamaged", x, e, Check.ALL_SOUND, words[e]);
            Check.reads(when + ", undamaged", x, e, words[e]);
            everyColumnCanBeDamaged(when, x, e);
        }
        Check.due(when + ": healed() at last", x.healed(), HEALED);
        draftIsSeenIn(when, x);
    }

    // A wrong column, parity too, shows as a wrong digest while another column is damaged.
    private void everyColumnCanBeDamaged(String when, SelfHealStripes x, int e) {
        for (int c = 0; c <= words[e].length && words[e].length > 0; c++) {
            Check.due(when + ": damage(" + e + ", " + c + ", 6)", x.damage(e, c, 6), 1);
            Check.holds(when + ", column " + c + " damaged", x, e, c, words[e]);
            Check.due(when + ": damage(" + e + ", " + c + ", 6) again", x.damage(e, c, 6), 0);
        }
    }

    private void draftIsSeenIn(String when, SelfHealStripes x) {
        int[] all = Arrays.copyOf(draft, MAX_WORDS);
        for (int i = draft.length; i < MAX_WORDS; i++) {
            all[i] = 900 + i;
            Check.due(when + ": draft(" + all[i] + ")", x.draft(all[i]), i + 1);
        }
        Check.due(when + ": draft of a fifth word", x.draft(999), SelfHealStripes.FULL);
        Check.due(when + ": put of the draft", x.put(NEVER_PRESENT), MAX_WORDS);
        Check.reads(when + ", draft", x, NEVER_PRESENT, all);
    }
}
