import java.util.function.ToIntFunction;

/**
 * One test for each sentence of the document that refuses a call or says that a call changes
 * nothing: the answer, and that everything is as it was afterwards.
 */
public final class RefusedCallsTest {
    private static final int BAD_ARG = SelfHealStripes.BAD_ARG;
    private static final int FULL = SelfHealStripes.FULL;
    private static final int ABSENT = SelfHealStripes.ABSENT;
    private static final int DAMAGED = SelfHealStripes.DAMAGED;
    private static final int MIN = Integer.MIN_VALUE;
    private static final int MAX = Integer.MAX_VALUE;
    private static final int NEVER_PRESENT = Scene.NEVER_PRESENT;
    private static final int DELETED = Scene.DELETED;

    public static void main(String[] args) {
        Check.sentence("the scenes are as they say", RefusedCallsTest::scenes);
        Check.sentence("2: FULL if it has four", RefusedCallsTest::draftFull);
        Check.sentence("4: an extent not 0 to 7 answers BAD_ARG", RefusedCallsTest::putNoExtent);
        Check.sentence("4: ABSENT if the draft is empty", RefusedCallsTest::putEmptyDraft);
        Check.sentence("15: put: the extent is tested before the draft", RefusedCallsTest::putNoExtentEmptyDraft);
        Check.sentence("5: an extent not 0 to 7 answers BAD_ARG", RefusedCallsTest::deleteNoExtent);
        Check.sentence("5: ABSENT if it is absent", RefusedCallsTest::deleteAbsent);
        Check.sentence("6: BAD_ARG if e is not 0 to 7", RefusedCallsTest::sizeNoExtent);
        Check.sentence("7: 0 if e is not 0 to 7", RefusedCallsTest::readNoExtent);
        Check.sentence("7: 0 if the extent is absent", RefusedCallsTest::readAbsent);
        Check.sentence("7: 0 if i is not 0 to size - 1", RefusedCallsTest::readNoWord);
        Check.sentence("8: an extent not 0 to 7 answers BAD_ARG", RefusedCallsTest::damageNoExtent);
        Check.sentence("8: the extent is absent answers ABSENT", RefusedCallsTest::damageAbsent);
        Check.sentence("8: ABSENT is tested before the column", RefusedCallsTest::damageAbsentNoColumn);
        Check.sentence("8: c not 0 to size(e) answers BAD_ARG", RefusedCallsTest::damageNoColumn);
        Check.sentence("8: the column is tested before other damage", RefusedCallsTest::damageNoColumnWhileDamaged);
        Check.sentence("8: another column is damaged answers DAMAGED", RefusedCallsTest::damageAnotherColumn);
        Check.sentence("15: the answer is DAMAGED with mask 0, too", RefusedCallsTest::damageAnotherColumnMask0);
        Check.sentence("8: a mask 0 changes nothing", RefusedCallsTest::damageMask0);
        Check.sentence("9: an extent not 0 to 7 answers BAD_ARG", RefusedCallsTest::damagedNoExtent);
        Check.sentence("9: ABSENT if it is absent", RefusedCallsTest::damagedAbsent);
        Check.sentence("12: BAD_ARG if d is not 0 to 4", RefusedCallsTest::loseNoDisk);
        Check.sentence("15: lose: BAD_ARG is tested before DAMAGED", RefusedCallsTest::loseNoDiskWhileDamaged);
        Check.sentence("12: DAMAGED if some column of some extent is damaged", RefusedCallsTest::loseDamaged);
        Check.sentence("12: nothing can be seen of this by any call", RefusedCallsTest::loseIsNotSeen);
        Check.sentence("13: an extent from not 0 to 7 answers BAD_ARG", RefusedCallsTest::copyFromNoExtent);
        Check.sentence("13: an extent to not 0 to 7 answers BAD_ARG", RefusedCallsTest::copyToNoExtent);
        Check.sentence("13: tested first: both extents", RefusedCallsTest::copyToNoExtentWhileDamaged);
        Check.sentence("13: DAMAGED if a column of from is damaged", RefusedCallsTest::copyDamaged);
        Check.sentence("13: also if to is from", RefusedCallsTest::copyDamagedToItself);
        Check.sentence("13: to becomes what from is, if to is from", RefusedCallsTest::copySoundToItself);
        Check.sentence("13: absent if from is absent, if to is absent", RefusedCallsTest::copyAbsentToAbsent);
        Check.sentence("14: 0 if e is not 0 to 7", RefusedCallsTest::digestNoExtent);
        Check.sentence("14: 0 if it is absent", RefusedCallsTest::digestAbsent);
        Check.sentence("14: without healing anything", RefusedCallsTest::digestHealsNothing);
        Check.sentence("6, 9, 11: a call that tells changes nothing", RefusedCallsTest::tellingChangesNothing);
        Check.finish();
    }

    /** In a sound state and in a damaged one, as a refusal must hold in both. */
    private static void refused(String call, int code, ToIntFunction<SelfHealStripes> made) {
        Scene.sound().changesNothing(call + " in a sound scene", code, made);
        Scene.worn().changesNothing(call + " in a worn scene", code, made);
    }

    private static void scenes() {
        Scene.sound().isSeenIn("sound", Scene.sound().make());
        Scene.worn().isSeenIn("worn", Scene.worn().make());
    }

    private static void draftFull() {
        for (int word : new int[] {0, 1, -1, MIN, MAX}) {
            Scene.sound().drafted(1, 2, 3, 4).changesNothing("draft(" + word + ")", FULL, x -> x.draft(word));
            Scene.worn().drafted(0, 0, 0, 0).changesNothing("draft(" + word + ")", FULL, x -> x.draft(word));
        }
    }

    private static void putNoExtent() {
        for (int e : Check.NOT_EXTENTS) {
            refused("put(" + e + ")", BAD_ARG, x -> x.put(e));
            Scene.worn().drafted(1, 2, 3, 4).changesNothing("put(" + e + ") of four", BAD_ARG, x -> x.put(e));
        }
    }

    private static void putEmptyDraft() {
        for (int extent = 0; extent < 8; extent++) {
            int e = extent;
            Scene.sound().drafted().changesNothing("put(" + e + ") of none", ABSENT, x -> x.put(e));
            Scene.worn().drafted().changesNothing("put(" + e + ") of none", ABSENT, x -> x.put(e));
        }
    }

    private static void putNoExtentEmptyDraft() {
        for (int e : Check.NOT_EXTENTS) {
            Scene.sound().drafted().changesNothing("put(" + e + ") of none", BAD_ARG, x -> x.put(e));
        }
    }

    private static void deleteNoExtent() {
        for (int e : Check.NOT_EXTENTS) {
            refused("delete(" + e + ")", BAD_ARG, x -> x.delete(e));
        }
    }

    private static void deleteAbsent() {
        refused("delete of a never present one", ABSENT, x -> x.delete(NEVER_PRESENT));
        refused("delete of a deleted one", ABSENT, x -> x.delete(DELETED));
    }

    private static void sizeNoExtent() {
        for (int e : Check.NOT_EXTENTS) {
            refused("size(" + e + ")", BAD_ARG, x -> x.size(e));
        }
    }

    private static void readNoExtent() {
        for (int e : Check.NOT_EXTENTS) {
            for (int i : new int[] {0, 1, 3, -1, 4, MIN, MAX}) {
                refused("read(" + e + ", " + i + ")", 0, x -> x.read(e, i));
            }
        }
    }

    private static void readAbsent() {
        for (int i : new int[] {0, 1, 2, 3, 4, -1, MIN, MAX}) {
            refused("read of a never present one, word " + i, 0, x -> x.read(NEVER_PRESENT, i));
            refused("read of a deleted one, word " + i, 0, x -> x.read(DELETED, i));
        }
    }

    private static void readNoWord() {
        for (int e : Scene.PRESENT) {
            int size = Scene.sound().size(e);
            for (int i : new int[] {-1, -2, size, size + 1, 5, 40, MIN, MAX}) {
                refused("read(" + e + ", " + i + ")", 0, x -> x.read(e, i));
            }
        }
    }

    private static void damageNoExtent() {
        for (int e : Check.NOT_EXTENTS) {
            for (int c : new int[] {0, 4, -1, 5}) {
                refused("damage(" + e + ", " + c + ", 1)", BAD_ARG, x -> x.damage(e, c, 1));
                refused("damage(" + e + ", " + c + ", 0)", BAD_ARG, x -> x.damage(e, c, 0));
            }
        }
    }

    private static void damageAbsent() {
        for (int c = 0; c <= 4; c++) {
            int column = c;
            refused("damage of a never present one, column " + c, ABSENT, x -> x.damage(NEVER_PRESENT, column, 1));
            refused("damage of a deleted one, column " + c, ABSENT, x -> x.damage(DELETED, column, 9));
            refused("damage of a deleted one, mask 0", ABSENT, x -> x.damage(DELETED, column, 0));
        }
    }

    private static void damageAbsentNoColumn() {
        for (int c : new int[] {-1, 5, 6, MIN, MAX}) {
            refused("damage of a never present one, column " + c, ABSENT, x -> x.damage(NEVER_PRESENT, c, 1));
            refused("damage of a deleted one, column " + c, ABSENT, x -> x.damage(DELETED, c, 1));
        }
    }

    private static void damageNoColumn() {
        for (int e : Scene.PRESENT) {
            int size = Scene.sound().size(e);
            for (int c : new int[] {-1, -5, size + 1, size + 2, 5, 40, MIN, MAX}) {
                Scene.sound().changesNothing("damage(" + e + ", " + c + ", 1)", BAD_ARG, x -> x.damage(e, c, 1));
                Scene.sound().changesNothing("damage(" + e + ", " + c + ", 0)", BAD_ARG, x -> x.damage(e, c, 0));
            }
        }
    }

    private static void damageNoColumnWhileDamaged() {
        for (int e : new int[] {2, 3, 6, 7}) {
            int size = Scene.worn().size(e);
            for (int c : new int[] {-1, -5, size + 1, 5, MIN, MAX}) {
                Scene.worn().changesNothing("damage(" + e + ", " + c + ", 1)", BAD_ARG, x -> x.damage(e, c, 1));
                Scene.worn().changesNothing("damage(" + e + ", " + c + ", 0)", BAD_ARG, x -> x.damage(e, c, 0));
            }
        }
    }

    private static void damageAnotherColumn() {
        for (int mask : Check.MASKS) {
            everyOtherColumnIsRefused(mask);
        }
    }

    private static void damageAnotherColumnMask0() {
        everyOtherColumnIsRefused(0);
    }

    // Every size, every column damaged, every other column tried.
    private static void everyOtherColumnIsRefused(int mask) {
        for (int e : Scene.ONE_OF_EACH_SIZE) {
            for (int c = 0; c <= Scene.sound().size(e); c++) {
                for (int column = 0; column <= Scene.sound().size(e); column++) {
                    int other = column;
                    if (other != c) {
                        Scene.sound().damaged(e, c, 12).changesNothing(
                                "damage(" + e + ", " + other + ", " + mask + ") while " + c + " is damaged",
                                DAMAGED, x -> x.damage(e, other, mask));
                    }
                }
            }
        }
    }

    private static void damageMask0() {
        for (int e : Scene.ONE_OF_EACH_SIZE) {
            for (int c = 0; c <= Scene.sound().size(e); c++) {
                int column = c;
                String call = "damage(" + e + ", " + c + ", 0)";
                Scene.sound().changesNothing(call + " on a sound column", 0, x -> x.damage(e, column, 0));
                for (int mask : Check.MASKS) {
                    Scene.sound().damaged(e, c, mask).changesNothing(
                            call + " on a column damaged by " + mask, 1, x -> x.damage(e, column, 0));
                }
            }
        }
    }

    private static void damagedNoExtent() {
        for (int e : Check.NOT_EXTENTS) {
            refused("damaged(" + e + ")", BAD_ARG, x -> x.damaged(e));
        }
    }

    private static void damagedAbsent() {
        refused("damaged of a never present one", ABSENT, x -> x.damaged(NEVER_PRESENT));
        refused("damaged of a deleted one", ABSENT, x -> x.damaged(DELETED));
    }

    private static void loseNoDisk() {
        for (int d : Check.NOT_DISKS) {
            Scene.sound().changesNothing("lose(" + d + ")", BAD_ARG, x -> x.lose(d));
            Check.due("lose(" + d + ") of a new object", Check.fresh().lose(d), BAD_ARG);
        }
    }

    private static void loseNoDiskWhileDamaged() {
        for (int d : Check.NOT_DISKS) {
            Scene.worn().changesNothing("lose(" + d + ")", BAD_ARG, x -> x.lose(d));
        }
    }

    // One damaged column is enough, in whichever extent, and whether the disk holds it or not.
    private static void loseDamaged() {
        for (int e : Scene.PRESENT) {
            for (int c = 0; c <= Scene.sound().size(e); c++) {
                for (int d = 0; d <= 4; d++) {
                    int disk = d;
                    Scene.sound().damaged(e, c, 12).changesNothing(
                            "lose(" + d + ") while column " + c + " of " + e + " is damaged",
                            DAMAGED, x -> x.lose(disk));
                }
            }
        }
    }

    private static void loseIsNotSeen() {
        for (int d = 0; d <= 4; d++) {
            int disk = d;
            Scene.sound().changesNothing("lose(" + d + ")", 0, x -> x.lose(disk));
            Scene.sound().changesNothing("lose(" + d + ") twice", 0, x -> x.lose(disk) + x.lose(disk));
        }
        Scene.sound().changesNothing("lose of every disk", 0,
                x -> x.lose(0) + x.lose(1) + x.lose(2) + x.lose(3) + x.lose(4));
        Scene.sound().changesNothing("lose of every disk backwards", 0,
                x -> x.lose(4) + x.lose(3) + x.lose(2) + x.lose(1) + x.lose(0));
    }

    private static void copyFromNoExtent() {
        for (int from : Check.NOT_EXTENTS) {
            for (int to : new int[] {0, 2, 3, NEVER_PRESENT, DELETED, 7}) {
                refused("copy(" + from + ", " + to + ")", BAD_ARG, x -> x.copy(from, to));
            }
            refused("copy(" + from + ", " + from + ")", BAD_ARG, x -> x.copy(from, from));
        }
    }

    private static void copyToNoExtent() {
        for (int to : Check.NOT_EXTENTS) {
            for (int from : new int[] {0, 1, NEVER_PRESENT, DELETED}) {
                refused("copy(" + from + ", " + to + ")", BAD_ARG, x -> x.copy(from, to));
            }
        }
    }

    private static void copyToNoExtentWhileDamaged() {
        for (int to : Check.NOT_EXTENTS) {
            for (int from : new int[] {2, 3, 6, 7}) {
                Scene.worn().changesNothing("copy(" + from + ", " + to + ")", BAD_ARG, x -> x.copy(from, to));
            }
        }
    }

    private static void copyDamaged() {
        for (int from = 0; from < 8; from++) {
            for (int to = 0; to < 8; to++) {
                int source = from;
                int target = to;
                if (from != to && Scene.worn().hasDamage(from)) {
                    Scene.worn().changesNothing("copy(" + from + ", " + to + ")", DAMAGED,
                            x -> x.copy(source, target));
                }
            }
        }
    }

    private static void copyDamagedToItself() {
        for (int e : Scene.PRESENT) {
            for (int c = 0; c <= Scene.sound().size(e); c++) {
                Scene.sound().damaged(e, c, 3).changesNothing("copy(" + e + ", " + e + ") with " + c + " damaged",
                        DAMAGED, x -> x.copy(e, e));
            }
        }
    }

    private static void copySoundToItself() {
        for (int extent = 0; extent < 8; extent++) {
            int e = extent;
            int size = Scene.sound().size(e);
            Scene.sound().changesNothing("copy(" + e + ", " + e + ")", size, x -> x.copy(e, e));
        }
    }

    private static void copyAbsentToAbsent() {
        refused("copy to a deleted one", 0, x -> x.copy(NEVER_PRESENT, DELETED));
        refused("copy of a deleted one", 0, x -> x.copy(DELETED, NEVER_PRESENT));
    }

    private static void digestNoExtent() {
        for (int e : Check.NOT_EXTENTS) {
            refused("digest(" + e + ")", 0, x -> x.digest(e));
        }
    }

    private static void digestAbsent() {
        refused("digest of a never present one", 0, x -> x.digest(NEVER_PRESENT));
        refused("digest of a deleted one", 0, x -> x.digest(DELETED));
    }

    private static void digestHealsNothing() {
        for (int c = 0; c <= 4; c++) {
            Scene.sound().damaged(7, c, -1).changesNothing("digest(7) with " + c + " damaged", 30, x -> x.digest(7));
        }
        for (int c = 0; c <= 1; c++) {
            Scene.sound().damaged(1, c, MIN).changesNothing("digest(1) with " + c + " damaged", 5, x -> x.digest(1));
        }
    }

    private static void tellingChangesNothing() {
        for (int e : Scene.PRESENT) {
            refused("size(" + e + ")", Scene.sound().size(e), x -> x.size(e));
            Scene.sound().changesNothing("damaged(" + e + ")", Check.ALL_SOUND, x -> x.damaged(e));
            Scene.worn().changesNothing("damaged(" + e + ")", Scene.worn().damagedColumn(e), x -> x.damaged(e));
        }
        refused("size of a never present one", 0, x -> x.size(NEVER_PRESENT));
        refused("size of a deleted one", 0, x -> x.size(DELETED));
        refused("healed()", 2, SelfHealStripes::healed);
    }
}
