import java.util.Arrays;
import java.util.function.ToIntFunction;

/**
 * One test for each sentence of the document that names a boundary of what is still done: the
 * smallest, the greatest, empty, full, wrapping. The refused side is in RefusedCallsTest.
 */
public final class BoundariesTest {
    private static final int BAD_ARG = SelfHealStripes.BAD_ARG;
    private static final int FULL = SelfHealStripes.FULL;
    private static final int ABSENT = SelfHealStripes.ABSENT;
    private static final int DAMAGED = SelfHealStripes.DAMAGED;
    private static final int ALL_SOUND = Check.ALL_SOUND;
    private static final int MIN = Integer.MIN_VALUE;
    private static final int MAX = Integer.MAX_VALUE;
    private static final int[] ENDS = {0, 7};
    private static final int[] WORDS = {MAX, -7, MIN, 12};
    private static final int LIMIT = 512;

    public static void main(String[] args) {
        Check.sentence("what it is: at most 512 calls, each kind as the last", BoundariesTest::lastCallOfEachKind);
        Check.sentence("what it is: at most 512 calls, drafts", BoundariesTest::lastCallOfManyDrafts);
        Check.sentence("what it is: at most 512 calls, heals", BoundariesTest::lastCallOfManyHeals);
        Check.sentence("terms: extents are numbered 0 to 7", BoundariesTest::everyExtent);
        Check.sentence("terms: an extent has 1 to 4 words", BoundariesTest::everySize);
        Check.sentence("terms: of w words are w + 1 columns", BoundariesTest::everyColumn);
        Check.sentence("terms: at most one column is damaged at any time", BoundariesTest::oneDamagedColumn);
        Check.sentence("terms: damage in one extent is no damage in another", BoundariesTest::damageInEveryExtent);
        Check.sentence("terms: a read gives the words as they were put", BoundariesTest::readsAsPut);
        Check.sentence("terms: no call ever throws", BoundariesTest::noCallThrows);
        Check.sentence("terms: the constants", BoundariesTest::constants);
        Check.sentence("1: all extents are absent", BoundariesTest::newExtents);
        Check.sentence("1: the draft is empty", BoundariesTest::newDraft);
        Check.sentence("2: the number of its words afterwards", BoundariesTest::draftCounts);
        Check.sentence("2: appends a word, whatever word", BoundariesTest::draftTakesEveryWord);
        Check.sentence("3: empties the draft, of 0 to 4 words", BoundariesTest::scrapEveryDraft);
        Check.sentence("3: empties the draft and nothing else", BoundariesTest::scrapLeavesTheRest);
        Check.sentence("4: the number of words", BoundariesTest::putCounts);
        Check.sentence("4: all columns sound", BoundariesTest::putIsSound);
        Check.sentence("4: what it had is gone", BoundariesTest::putOverEverySize);
        Check.sentence("4: the draft becomes empty", BoundariesTest::putEmptiesTheDraft);
        Check.sentence("5: the number of words it had", BoundariesTest::deleteCounts);
        Check.sentence("5: becomes absent, with its damage", BoundariesTest::deleteDamaged);
        Check.sentence("6: 0 if it is absent", BoundariesTest::sizeOfAbsent);
        Check.sentence("7: word i, from 0 to size - 1", BoundariesTest::readFirstAndLast);
        Check.sentence("7: a damaged column not the parity column is sound afterwards", BoundariesTest::readHeals);
        Check.sentence("7: the parity column is not healed", BoundariesTest::readLeavesParity);
        Check.sentence("7: if this is a word of the extent", BoundariesTest::readOfNoWordHealsNothing);
        Check.sentence("8: a sound column becomes damaged by this mask", BoundariesTest::damageBySmallAndGreatMasks);
        Check.sentence("8: damaged by M exclusive-or this mask", BoundariesTest::damageAddsUp);
        Check.sentence("8: or sound if that is 0", BoundariesTest::damageUndone);
        Check.sentence("8: also with mask 0, 1 if damaged afterwards, else 0", BoundariesTest::damageMask0);
        Check.sentence("8: another column, once the first is sound again", BoundariesTest::damageMovesOn);
        Check.sentence("9: the number of the damaged column", BoundariesTest::damagedFirstAndLast);
        Check.sentence("9: -5 if present and all sound", BoundariesTest::damagedNone);
        Check.sentence("10: how many were damaged: none", BoundariesTest::scrubNone);
        Check.sentence("10: how many were damaged: all", BoundariesTest::scrubAll);
        Check.sentence("10: all columns become sound, parity too", BoundariesTest::scrubEveryColumn);
        Check.sentence("11: since the object was made", BoundariesTest::healedFromNone);
        Check.sentence("11: made sound by read and scrub calls", BoundariesTest::healedByReadAndScrub);
        Check.sentence("11: and by no other call", BoundariesTest::healedByNoOther);
        Check.sentence("12: d from 0 to 4", BoundariesTest::loseFirstAndLast);
        Check.sentence("12: of a new object", BoundariesTest::loseOfNothing);
        Check.sentence("12: some column of some extent", BoundariesTest::loseSeesEveryExtent);
        Check.sentence("12: not damaged any more", BoundariesTest::loseAfterDamage);
        Check.sentence("13: to becomes what from is, over every size", BoundariesTest::copyOverEverySize);
        Check.sentence("13: all columns sound afterwards", BoundariesTest::copyOverDamage);
        Check.sentence("13: absent if from is absent", BoundariesTest::copyOfAbsent);
        Check.sentence("13: extent from is not changed", BoundariesTest::copyStandsAlone);
        Check.sentence("15: an extent that is absent has no damaged column", BoundariesTest::copyOfDeletedWhileDamaged);
        Check.sentence("14: the sum, wrapping", BoundariesTest::digestWraps);
        Check.sentence("14: over the words, each column damaged", BoundariesTest::digestWhileDamaged);
        Check.sentence("14: over the words that it has now", BoundariesTest::digestOfShorter);
        Check.finish();
    }

    private static int[] words(int size) {
        return Arrays.copyOf(WORDS, size);
    }

    private static SelfHealStripes with(int e, int... words) {
        SelfHealStripes x = Check.fresh();
        Check.store(x, e, words);
        return x;
    }

    /** Extent 7 has two words, extent 6 one damaged word, one word is drafted; 511 calls are used. */
    private static SelfHealStripes beforeLastCall() {
        SelfHealStripes x = with(7, 41, 42);
        Check.store(x, 6, 43);
        Check.due("damage", x.damage(6, 0, 3), 1);
        Check.due("draft", x.draft(44), 1);
        int used = 3 + 2 + 1 + 1;
        while (used < LIMIT - 1) {
            Check.due("copy, call " + (used + 1), x.copy(7, used % 6), 2);
            used++;
        }
        return x;
    }

    private static void lastCallOfEachKind() {
        Check.due("draft", beforeLastCall().draft(1), 2);
        Check.due("put", beforeLastCall().put(0), 1);
        Check.due("delete", beforeLastCall().delete(7), 2);
        Check.due("size", beforeLastCall().size(7), 2);
        Check.due("read", beforeLastCall().read(6, 0), 43);
        Check.due("damage", beforeLastCall().damage(7, 2, 1), 1);
        Check.due("damaged", beforeLastCall().damaged(6), 0);
        Check.due("scrub", beforeLastCall().scrub(), 1);
        Check.due("healed", beforeLastCall().healed(), 0);
        Check.due("lose", beforeLastCall().lose(4), DAMAGED);
        Check.due("copy", beforeLastCall().copy(7, 6), 2);
        Check.due("digest", beforeLastCall().digest(7), 125);
    }

    private static void lastCallOfManyDrafts() {
        SelfHealStripes x = Check.fresh();
        for (int call = 1; call <= LIMIT; call++) {
            Check.due("draft, call " + call, x.draft(call), call <= 4 ? call : FULL);
        }
        SelfHealStripes y = Check.fresh();
        for (int call = 1; call <= LIMIT; call += 2) {
            Check.due("draft, call " + call, y.draft(call), 1);
            Check.due("put, call " + (call + 1), y.put(call / 2 % 8), 1);
        }
    }

    private static void lastCallOfManyHeals() {
        SelfHealStripes x = with(0, 5, 6);
        int used = 3;
        for (int e = 1; e < 8; e++) {
            Check.due("copy", x.copy(0, e), 2);
            used++;
        }
        int heals = 0;
        while (used + 8 + 1 < LIMIT) {
            for (int e = 0; e < 8; e++) {
                Check.due("damage", x.damage(e, (used + e) % 3, used), 1);
            }
            Check.due("scrub", x.scrub(), 8);
            used += 9;
            heals += 8;
        }
        Check.due("healed, call " + (used + 1), x.healed(), heals);
    }

    private static void everyExtent() {
        for (int e = 0; e < 8; e++) {
            SelfHealStripes x = Check.fresh();
            Check.due("draft", x.draft(6), 1);
            Check.due("put(" + e + ")", x.put(e), 1);
            Check.due("size(" + e + ")", x.size(e), 1);
            Check.due("damaged(" + e + ")", x.damaged(e), ALL_SOUND);
            Check.due("damage(" + e + ", 0, 1)", x.damage(e, 0, 1), 1);
            Check.due("digest(" + e + ")", x.digest(e), 6);
            Check.due("read(" + e + ", 0)", x.read(e, 0), 6);
            Check.due("copy(" + e + ", " + (7 - e) + ")", x.copy(e, 7 - e), 1);
            for (int other = 0; other < 8; other++) {
                Check.due("size(" + other + ")", x.size(other), other == e || other == 7 - e ? 1 : 0);
            }
            Check.due("delete(" + (7 - e) + ")", x.delete(7 - e), 1);
            Check.due("delete(" + e + ")", x.delete(e), 1);
        }
    }

    private static void everySize() {
        for (int e : ENDS) {
            for (int size = 1; size <= 4; size++) {
                SelfHealStripes x = with(e, words(size));
                Check.holds("size " + size, x, e, ALL_SOUND, words(size));
                Check.reads("size " + size, x, e, words(size));
                Check.due("read after the last word", x.read(e, size), 0);
            }
        }
    }

    private static void everyColumn() {
        for (int e : ENDS) {
            for (int size = 1; size <= 4; size++) {
                for (int c = 0; c <= size; c++) {
                    Check.due("damage of column " + c + " of " + size + " words",
                            with(e, words(size)).damage(e, c, 1), 1);
                }
                Check.due("damage before the first column", with(e, words(size)).damage(e, -1, 1), BAD_ARG);
                Check.due("damage after parity", with(e, words(size)).damage(e, size + 1, 1), BAD_ARG);
            }
        }
    }

    private static void oneDamagedColumn() {
        for (int size = 1; size <= 4; size++) {
            for (int first = 0; first <= size; first++) {
                SelfHealStripes x = with(3, words(size));
                Check.due("damage", x.damage(3, first, 5), 1);
                for (int c = 0; c <= size; c++) {
                    Check.due("damage of " + c + " while " + first + " is damaged",
                            x.damage(3, c, 2), c == first ? 1 : DAMAGED);
                    Check.due("damaged", x.damaged(3), first);
                }
                Check.due("scrub", x.scrub(), 1);
                Check.reads("scrubbed", x, 3, words(size));
            }
        }
    }

    private static void damageInEveryExtent() {
        SelfHealStripes x = Check.fresh();
        for (int e = 0; e < 8; e++) {
            Check.store(x, e, words(4));
        }
        for (int e = 0; e < 8; e++) {
            Check.due("damage in extent " + e, x.damage(e, e % 5, e + 1), 1);
        }
        for (int e = 0; e < 8; e++) {
            Check.holds("all damaged", x, e, e % 5, words(4));
        }
        for (int e = 0; e < 8; e++) {
            Check.due("the mask in extent " + e, x.damage(e, e % 5, e + 1), 0);
        }
    }

    private static void readsAsPut() {
        int[] extremes = {MIN, MAX, 0, -1};
        for (int size = 1; size <= 4; size++) {
            for (int turn = 0; turn < 4; turn++) {
                int[] words = new int[size];
                for (int i = 0; i < size; i++) {
                    words[i] = extremes[(i + turn) % 4];
                }
                for (int c = 0; c <= size; c++) {
                    for (int mask : Check.MASKS) {
                        SelfHealStripes x = with(0, words);
                        Check.due("damage", x.damage(0, c, mask), 1);
                        Check.reads("column " + c + " damaged by " + mask, x, 0, words);
                    }
                }
            }
        }
    }

    private static void noCallThrows() {
        for (Scene scene : new Scene[] {
            Scene.sound(), Scene.worn(), Scene.worn().drafted(), Scene.worn().drafted(1, 2, 3, 4)
        }) {
            everyCallEnds(scene.make());
        }
        everyCallEnds(Check.fresh());
    }

    // What is answered is told by the other tests; here a call that throws fails the test.
    private static void everyCallEnds(SelfHealStripes x) {
        int[] arguments = {MIN, MIN + 1, -9, -5, -2, -1, 0, 1, 2, 3, 4, 5, 6, 7, 8, 9, 39, 40, 41, MAX - 1, MAX};
        for (int a : arguments) {
            x.size(a);
            x.damaged(a);
            x.digest(a);
            x.lose(a);
        }
        for (int a : new int[] {MIN, -1, 0, 2, 4, 7, 8, MAX}) {
            for (int b : new int[] {MIN, -1, 0, 4, 5, 8, MAX}) {
                x.read(a, b);
                x.damage(a, b, a);
                x.copy(a, b);
            }
            x.draft(a);
            x.put(a);
            x.delete(a);
            x.scrub();
            x.healed();
            x.scrap();
        }
    }

    private static void constants() {
        Check.due("BAD_ARG", SelfHealStripes.BAD_ARG, -1);
        Check.due("FULL", SelfHealStripes.FULL, -2);
        Check.due("ABSENT", SelfHealStripes.ABSENT, -3);
        Check.due("DAMAGED", SelfHealStripes.DAMAGED, -4);
    }

    private static void newExtents() {
        for (int e = 0; e < 8; e++) {
            Check.due("size(" + e + ")", Check.fresh().size(e), 0);
            Check.due("damaged(" + e + ")", Check.fresh().damaged(e), ABSENT);
            Check.due("delete(" + e + ")", Check.fresh().delete(e), ABSENT);
            Check.due("damage(" + e + ", 0, 1)", Check.fresh().damage(e, 0, 1), ABSENT);
            Check.due("read(" + e + ", 0)", Check.fresh().read(e, 0), 0);
            Check.due("digest(" + e + ")", Check.fresh().digest(e), 0);
            Check.due("copy(" + e + ", 0)", Check.fresh().copy(e, 0), 0);
        }
    }

    private static void newDraft() {
        for (int e = 0; e < 8; e++) {
            Check.due("put(" + e + ")", Check.fresh().put(e), ABSENT);
        }
        Check.due("draft(0)", Check.fresh().draft(0), 1);
    }

    private static void draftCounts() {
        SelfHealStripes x = Check.fresh();
        for (int count = 1; count <= 4; count++) {
            Check.due("draft number " + count, x.draft(-count), count);
        }
        Check.due("draft number 5", x.draft(-5), FULL);
        Check.due("draft number 6", x.draft(-6), FULL);
        Check.due("put", x.put(0), 4);
        Check.reads("the first four", x, 0, -1, -2, -3, -4);
        Check.due("draft once there is room", x.draft(-7), 1);
    }

    // The answer is a count, so a word that looks like a code must not be taken for one.
    private static void draftTakesEveryWord() {
        for (int word : new int[] {0, BAD_ARG, FULL, ABSENT, DAMAGED, ALL_SOUND, MIN, MAX}) {
            SelfHealStripes x = Check.fresh();
            Check.due("draft(" + word + ")", x.draft(word), 1);
            Check.due("put", x.put(0), 1);
            Check.due("read", x.read(0, 0), word);
            Check.due("digest", x.digest(0), word);
        }
    }

    private static void scrapEveryDraft() {
        for (int count = 0; count <= 4; count++) {
            SelfHealStripes x = Check.fresh();
            for (int i = 0; i < count; i++) {
                x.draft(70 + i);
            }
            x.scrap();
            Check.due("put after scrap of " + count, x.put(0), ABSENT);
            x.scrap();
            Check.store(x, 0, words(4));
            Check.reads("stored after scrap of " + count, x, 0, words(4));
        }
    }

    private static void scrapLeavesTheRest() {
        SelfHealStripes sound = Scene.sound().make();
        sound.scrap();
        Scene.sound().drafted().isSeenIn("after scrap()", sound);
        SelfHealStripes worn = Scene.worn().drafted(1, 2, 3, 4).make();
        worn.scrap();
        Scene.worn().drafted().isSeenIn("after scrap()", worn);
    }

    private static void putCounts() {
        for (int e : ENDS) {
            for (int size = 1; size <= 4; size++) {
                SelfHealStripes x = Check.fresh();
                for (int i = 0; i < size; i++) {
                    x.draft(0);
                }
                Check.due("put(" + e + ") of " + size, x.put(e), size);
                Check.due("size(" + e + ")", x.size(e), size);
            }
        }
    }

    private static void putIsSound() {
        for (int size = 1; size <= 4; size++) {
            for (int c = 0; c <= size; c++) {
                SelfHealStripes x = with(7, words(size));
                Check.due("damage", x.damage(7, c, MIN), 1);
                Check.store(x, 7, words(size));
                Check.holds("put over damaged column " + c, x, 7, ALL_SOUND, words(size));
                Check.due("scrub", x.scrub(), 0);
                Check.due("healed", x.healed(), 0);
            }
        }
    }

    private static void putOverEverySize() {
        for (int before = 1; before <= 4; before++) {
            for (int after = 1; after <= 4; after++) {
                SelfHealStripes x = with(0, 100, 200, 300, 400);
                Check.store(x, 0, Arrays.copyOf(new int[] {-1, -2, -3, -4}, before));
                Check.store(x, 0, words(after));
                Check.holds(after + " over " + before, x, 0, ALL_SOUND, words(after));
                Check.reads(after + " over " + before, x, 0, words(after));
                Check.due("read after the last word", x.read(0, after), 0);
                Check.due("damage of parity", x.damage(0, after, 1), 1);
                Check.due("damage after parity", x.damage(0, after + 1, 1), BAD_ARG);
            }
        }
    }

    private static void putEmptiesTheDraft() {
        for (int size = 1; size <= 4; size++) {
            SelfHealStripes x = with(0, words(size));
            Check.due("put again", x.put(1), ABSENT);
            Check.due("size(1)", x.size(1), 0);
            Check.store(x, 1, 8);
            Check.holds("the next draft", x, 1, ALL_SOUND, 8);
        }
    }

    private static void deleteCounts() {
        for (int e : ENDS) {
            for (int size = 1; size <= 4; size++) {
                SelfHealStripes x = with(e, words(size));
                Check.due("delete(" + e + ") of " + size, x.delete(e), size);
                Check.due("delete(" + e + ") again", x.delete(e), ABSENT);
                Check.holds("deleted", x, e, ALL_SOUND);
                Check.due("read of the deleted", x.read(e, 0), 0);
            }
        }
    }

    private static void deleteDamaged() {
        for (int size = 1; size <= 4; size++) {
            for (int c = 0; c <= size; c++) {
                SelfHealStripes x = with(7, words(size));
                Check.due("damage", x.damage(7, c, 1), 1);
                Check.due("delete", x.delete(7), size);
                Check.due("damaged", x.damaged(7), ABSENT);
                Check.due("lose", x.lose(0), 0);
                Check.due("scrub", x.scrub(), 0);
                Check.due("healed", x.healed(), 0);
                Check.store(x, 7, words(4));
                Check.holds("put again", x, 7, ALL_SOUND, words(4));
            }
        }
    }

    private static void sizeOfAbsent() {
        for (int e = 0; e < 8; e++) {
            SelfHealStripes x = Check.fresh();
            Check.due("size(" + e + ") never present", x.size(e), 0);
            Check.store(x, e, words(4));
            Check.due("size(" + e + ") present", x.size(e), 4);
            x.delete(e);
            Check.due("size(" + e + ") deleted", x.size(e), 0);
            Check.store(x, e, 1);
            x.copy((e + 1) % 8, e);
            Check.due("size(" + e + ") absent by copy", x.size(e), 0);
        }
    }

    private static void readFirstAndLast() {
        for (int e : ENDS) {
            for (int size = 1; size <= 4; size++) {
                SelfHealStripes x = with(e, words(size));
                Check.due("read of the first word", x.read(e, 0), WORDS[0]);
                Check.due("read of the last word", x.read(e, size - 1), WORDS[size - 1]);
                Check.due("read before the first word", x.read(e, -1), 0);
                Check.due("read of the parity column", x.read(e, size), 0);
            }
        }
    }

    private static void readHeals() {
        for (int size = 1; size <= 4; size++) {
            for (int c = 0; c < size; c++) {
                for (int i = 0; i < size; i++) {
                    SelfHealStripes x = with(0, words(size));
                    Check.due("damage", x.damage(0, c, -1), 1);
                    Check.due("read of word " + i + " with " + c + " damaged", x.read(0, i), WORDS[i]);
                    Check.holds("healed", x, 0, ALL_SOUND, words(size));
                    Check.due("healed()", x.healed(), 1);
                    Check.due("read again", x.read(0, i), WORDS[i]);
                    Check.due("healed() again", x.healed(), 1);
                    Check.due("it is sound: damage of another column", x.damage(0, size, 1), 1);
                }
            }
        }
    }

    private static void readLeavesParity() {
        for (int size = 1; size <= 4; size++) {
            for (int mask : Check.MASKS) {
                SelfHealStripes x = with(7, words(size));
                Check.due("damage of parity", x.damage(7, size, mask), 1);
                Check.reads("parity damaged", x, 7, words(size));
                Check.holds("parity damaged", x, 7, size, words(size));
                Check.due("healed()", x.healed(), 0);
                Check.due("the mask", x.damage(7, size, mask), 0);
            }
        }
    }

    private static void readOfNoWordHealsNothing() {
        for (int size = 1; size <= 4; size++) {
            for (int c = 0; c < size; c++) {
                for (int i : new int[] {-1, size, size + 1, 5, MIN, MAX}) {
                    SelfHealStripes x = with(7, words(size));
                    Check.due("damage", x.damage(7, c, MAX), 1);
                    Check.due("read(7, " + i + ")", x.read(7, i), 0);
                    Check.due("damaged(7)", x.damaged(7), c);
                    Check.due("healed()", x.healed(), 0);
                    Check.due("the mask", x.damage(7, c, MAX), 0);
                }
            }
        }
    }

    private static void damageBySmallAndGreatMasks() {
        for (int mask : Check.MASKS) {
            for (int c = 0; c <= 4; c++) {
                SelfHealStripes x = with(0, words(4));
                Check.due("damage(0, " + c + ", " + mask + ")", x.damage(0, c, mask), 1);
                Check.holds("damaged by " + mask, x, 0, c, words(4));
                Check.due("by just this mask", x.damage(0, c, mask), 0);
            }
        }
    }

    private static void damageAddsUp() {
        for (int size = 1; size <= 4; size++) {
            for (int c = 0; c <= size; c++) {
                SelfHealStripes x = with(7, words(size));
                Check.due("damage by 12", x.damage(7, c, 12), 1);
                Check.due("damage by 10", x.damage(7, c, 10), 1);
                Check.due("damage by MIN", x.damage(7, c, MIN), 1);
                Check.holds("three times damaged", x, 7, c, words(size));
                Check.due("damage by all three", x.damage(7, c, MIN ^ 6), 0);
                Check.due("damage by 12", x.damage(7, c, 12), 1);
                Check.due("damage by MAX", x.damage(7, c, MAX), 1);
                Check.due("scrub counts it once", x.scrub(), 1);
                Check.holds("scrubbed", x, 7, ALL_SOUND, words(size));
            }
        }
    }

    private static void damageUndone() {
        for (int mask : Check.MASKS) {
            for (int size = 1; size <= 4; size++) {
                for (int c = 0; c <= size; c++) {
                    SelfHealStripes x = with(7, words(size));
                    Check.due("damage by " + mask, x.damage(7, c, mask), 1);
                    Check.due("damage by " + mask + " again", x.damage(7, c, mask), 0);
                    Check.holds("undone", x, 7, ALL_SOUND, words(size));
                    Check.reads("undone", x, 7, words(size));
                    Check.due("scrub", x.scrub(), 0);
                    Check.due("lose", x.lose(c), 0);
                    Check.due("healed()", x.healed(), 0);
                }
            }
        }
    }

    private static void damageMask0() {
        for (int c = 0; c <= 4; c++) {
            SelfHealStripes x = with(0, words(4));
            Check.due("mask 0 on a sound column", x.damage(0, c, 0), 0);
            Check.due("damaged(0)", x.damaged(0), ALL_SOUND);
            Check.due("lose", x.lose(0), 0);
            Check.due("damage", x.damage(0, c, MIN), 1);
            Check.due("mask 0 on a damaged column", x.damage(0, c, 0), 1);
            Check.due("damaged(0)", x.damaged(0), c);
            Check.due("damage undone", x.damage(0, c, MIN), 0);
            Check.due("mask 0 on a column sound again", x.damage(0, c, 0), 0);
        }
    }

    private static void damageMovesOn() {
        SelfHealStripes x = with(0, words(4));
        for (int c = 0; c <= 4; c++) {
            Check.due("damage of " + c, x.damage(0, c, 3), 1);
            Check.due("damage of the next", x.damage(0, (c + 1) % 5, 3), DAMAGED);
            Check.due("damage of " + c + " undone", x.damage(0, c, 3), 0);
            Check.due("damage of the next", x.damage(0, (c + 1) % 5, 3), 1);
            Check.due("scrub", x.scrub(), 1);
        }
        Check.reads("at last", x, 0, words(4));
    }

    private static void damagedFirstAndLast() {
        for (int e : ENDS) {
            for (int size = 1; size <= 4; size++) {
                SelfHealStripes first = with(e, words(size));
                first.damage(e, 0, 1);
                Check.due("damaged(" + e + ") in the first column", first.damaged(e), 0);
                SelfHealStripes last = with(e, words(size));
                last.damage(e, size, 1);
                Check.due("damaged(" + e + ") in the last column", last.damaged(e), size);
            }
        }
    }

    private static void damagedNone() {
        for (int e : ENDS) {
            for (int size = 1; size <= 4; size++) {
                SelfHealStripes x = with(e, words(size));
                Check.due("damaged(" + e + ") once put", x.damaged(e), -5);
                x.damage(e, 0, 1);
                x.read(e, 0);
                Check.due("damaged(" + e + ") once read", x.damaged(e), -5);
                x.damage(e, size, 1);
                x.scrub();
                Check.due("damaged(" + e + ") once scrubbed", x.damaged(e), -5);
            }
        }
    }

    private static void scrubNone() {
        SelfHealStripes x = Check.fresh();
        Check.due("scrub of a new object", x.scrub(), 0);
        Scene.sound().changesNothing("scrub of a sound one", 0, SelfHealStripes::scrub);
        SelfHealStripes worn = Scene.worn().make();
        Check.due("scrub", worn.scrub(), 4);
        Check.due("scrub again", worn.scrub(), 0);
        Check.due("healed()", worn.healed(), 6);
    }

    private static void scrubAll() {
        SelfHealStripes x = Check.fresh();
        for (int e = 0; e < 8; e++) {
            Check.store(x, e, words(1 + e % 4));
            Check.due("damage", x.damage(e, e % 2 == 0 ? 0 : 1 + e % 4, -1), 1);
        }
        Check.due("scrub", x.scrub(), 8);
        Check.due("healed()", x.healed(), 8);
        for (int e = 0; e < 8; e++) {
            Check.holds("scrubbed", x, e, ALL_SOUND, words(1 + e % 4));
            Check.reads("scrubbed", x, e, words(1 + e % 4));
        }
    }

    private static void scrubEveryColumn() {
        for (int e : ENDS) {
            for (int size = 1; size <= 4; size++) {
                for (int c = 0; c <= size; c++) {
                    SelfHealStripes x = with(e, words(size));
                    Check.due("damage", x.damage(e, c, MAX), 1);
                    Check.due("scrub of column " + c + " of " + size + " words", x.scrub(), 1);
                    Check.holds("scrubbed", x, e, ALL_SOUND, words(size));
                    Check.reads("scrubbed", x, e, words(size));
                    Check.due("damage of the first column", x.damage(e, 0, 5), 1);
                    Check.reads("rebuilt from what was scrubbed", x, e, words(size));
                }
            }
        }
    }

    private static void healedFromNone() {
        Check.due("healed() of a new object", Check.fresh().healed(), 0);
        SelfHealStripes x = with(0, 1);
        x.read(0, 0);
        x.scrub();
        Check.due("healed() with nothing to heal", x.healed(), 0);
        x.damage(0, 0, 1);
        x.read(0, 0);
        Check.due("healed() of this object", x.healed(), 1);
        Check.due("healed() of the next object", Check.fresh().healed(), 0);
    }

    private static void healedByReadAndScrub() {
        SelfHealStripes x = with(0, 1, 2);
        Check.due("copy", x.copy(0, 7), 2);
        for (int round = 0; round < 6; round++) {
            x.damage(0, round % 2, 1);
            x.damage(7, 2, 1);
            x.read(7, 0);
            Check.due("healed() by a read of damaged parity", x.healed(), 3 * round);
            x.read(0, 0);
            Check.due("healed() by read", x.healed(), 3 * round + 1);
            x.damage(0, round % 3, 1);
            x.scrub();
            Check.due("healed() by scrub", x.healed(), 3 * round + 3);
        }
        x.delete(0);
        x.delete(7);
        Check.due("healed() stays when the extents are gone", x.healed(), 18);
    }

    private static void healedByNoOther() {
        healedByNone("damage undone", x -> x.damage(2, 1, 0x55));
        healedByNone("put", x -> x.put(2));
        healedByNone("delete", x -> x.delete(2));
        healedByNone("copy over it", x -> x.copy(0, 2));
        healedByNone("copy of an absent one over it", x -> x.copy(Scene.NEVER_PRESENT, 2));
        healedByNone("copy of it", x -> x.copy(2, 0));
        healedByNone("digest", x -> x.digest(2));
        healedByNone("damaged", x -> x.damaged(2));
        healedByNone("size", x -> x.size(2));
        healedByNone("lose", x -> x.lose(1));
        healedByNone("draft", x -> x.draft(1));
        healedByNone("read of another extent", x -> x.read(0, 0));
        healedByNone("read of no word", x -> x.read(2, 3));
    }

    private static void healedByNone(String call, ToIntFunction<SelfHealStripes> made) {
        SelfHealStripes x = Scene.worn().make();
        int before = x.healed();
        made.applyAsInt(x);
        Check.due("healed() after " + call, x.healed(), before);
    }

    private static void loseFirstAndLast() {
        for (int size = 1; size <= 4; size++) {
            for (int d = 0; d <= 4; d++) {
                SelfHealStripes x = with(7, words(size));
                Check.due("lose(" + d + ")", x.lose(d), 0);
                Check.holds("lost " + d, x, 7, ALL_SOUND, words(size));
                Check.reads("lost " + d, x, 7, words(size));
            }
            Check.due("lose(-1)", with(7, words(size)).lose(-1), BAD_ARG);
            Check.due("lose(5)", with(7, words(size)).lose(5), BAD_ARG);
        }
    }

    private static void loseOfNothing() {
        for (int d = 0; d <= 4; d++) {
            SelfHealStripes x = Check.fresh();
            Check.due("lose(" + d + ")", x.lose(d), 0);
            for (int e = 0; e < 8; e++) {
                Check.holds("lost " + d, x, e, ALL_SOUND);
            }
        }
    }

    private static void loseSeesEveryExtent() {
        for (int e = 0; e < 8; e++) {
            for (int size = 1; size <= 4; size++) {
                for (int c = 0; c <= size; c++) {
                    SelfHealStripes x = with(e, words(size));
                    Check.due("damage", x.damage(e, c, 1), 1);
                    for (int d = 0; d <= 4; d++) {
                        Check.due("lose(" + d + ") while column " + c + " of " + e + " is damaged",
                                x.lose(d), DAMAGED);
                    }
                    Check.holds("a refused lose", x, e, c, words(size));
                }
            }
        }
    }

    private static void loseAfterDamage() {
        for (int d = 0; d <= 4; d++) {
            SelfHealStripes x = with(0, words(4));
            x.damage(0, d, 1);
            Check.due("lose while damaged", x.lose(d), DAMAGED);
            x.damage(0, d, 1);
            Check.due("lose once undone", x.lose(d), 0);
            x.damage(0, d, 1);
            x.scrub();
            Check.due("lose once scrubbed", x.lose(d), 0);
            x.damage(0, d, 1);
            x.read(0, 0);
            Check.due("lose once read", x.lose(d), d == 4 ? DAMAGED : 0);
            Check.reads("at last", x, 0, words(4));
        }
    }

    private static void copyOverEverySize() {
        for (int size = 0; size <= 4; size++) {
            for (int over = 0; over <= 4; over++) {
                SelfHealStripes x = Check.fresh();
                if (size > 0) {
                    Check.store(x, 0, words(size));
                }
                if (over > 0) {
                    Check.store(x, 7, Arrays.copyOf(new int[] {-1, -2, -3, -4}, over));
                }
                Check.due("copy of " + size + " over " + over, x.copy(0, 7), size);
                Check.holds("to", x, 7, ALL_SOUND, words(size));
                Check.holds("from", x, 0, ALL_SOUND, words(size));
                Check.reads("to", x, 7, words(size));
                Check.due("damage after parity", x.damage(7, size + 1, 1), size == 0 ? ABSENT : BAD_ARG);
                for (int c = 0; c <= size && size > 0; c++) {
                    Check.due("damage of column " + c + " of to", x.damage(7, c, 1), 1);
                    Check.holds("to, column " + c + " damaged", x, 7, c, words(size));
                    Check.due("damage undone", x.damage(7, c, 1), 0);
                }
            }
        }
    }

    private static void copyOverDamage() {
        for (int c = 0; c <= 4; c++) {
            SelfHealStripes x = with(0, 8, 9);
            Check.store(x, 7, words(4));
            x.damage(7, c, 1);
            Check.due("copy over damaged column " + c, x.copy(0, 7), 2);
            Check.holds("to", x, 7, ALL_SOUND, 8, 9);
            Check.due("scrub", x.scrub(), 0);
            Check.due("healed()", x.healed(), 0);
            for (int column = 0; column <= 2; column++) {
                Check.due("damage in the copy", x.damage(7, column, 3), 1);
                Check.holds("to", x, 7, column, 8, 9);
                Check.due("damage in the copy undone", x.damage(7, column, 3), 0);
            }
        }
    }

    private static void copyOfAbsent() {
        for (int to : Scene.PRESENT) {
            for (int from : new int[] {Scene.NEVER_PRESENT, Scene.DELETED}) {
                SelfHealStripes x = Scene.worn().make();
                Check.due("copy(" + from + ", " + to + ")", x.copy(from, to), 0);
                Check.holds("to", x, to, ALL_SOUND);
                Check.due("read of to", x.read(to, 0), 0);
                Check.due("delete of to", x.delete(to), ABSENT);
                Check.holds("from", x, from, ALL_SOUND);
                Check.due("scrub", x.scrub(), Scene.worn().hasDamage(to) ? 3 : 4);
            }
        }
    }

    private static void copyStandsAlone() {
        SelfHealStripes x = with(0, 1, 2, 3);
        Check.due("copy", x.copy(0, 7), 3);
        Check.due("damage in to", x.damage(7, 1, 1), 1);
        Check.holds("from", x, 0, ALL_SOUND, 1, 2, 3);
        Check.due("damage in from", x.damage(0, 3, 1), 1);
        Check.holds("to", x, 7, 1, 1, 2, 3);
        Check.due("delete of from", x.delete(0), 3);
        Check.reads("to", x, 7, 1, 2, 3);
        Check.due("copy back", x.copy(7, 0), 3);
        Check.store(x, 7, 9);
        Check.reads("from", x, 0, 1, 2, 3);
    }

    private static void copyOfDeletedWhileDamaged() {
        for (int c = 0; c <= 4; c++) {
            SelfHealStripes x = with(0, words(4));
            x.damage(0, c, 1);
            x.delete(0);
            Check.due("copy to another", x.copy(0, 7), 0);
            Check.due("copy to itself", x.copy(0, 0), 0);
            Check.due("damaged(7)", x.damaged(7), ABSENT);
        }
    }

    private static void digestWraps() {
        Check.due("MAX, MAX", with(0, MAX, MAX).digest(0), MAX - 2);
        Check.due("MIN, MIN", with(0, MIN, MIN).digest(0), MIN);
        Check.due("0, MIN", with(0, 0, MIN).digest(0), 0);
        Check.due("0, 0, MIN", with(0, 0, 0, MIN).digest(0), MIN);
        Check.due("0, 0, 0, 1 << 29", with(7, 0, 0, 0, 1 << 29).digest(7), MIN);
        Check.due("0, 0, 0, 1 << 30", with(7, 0, 0, 0, 1 << 30).digest(7), 0);
        Check.due("MAX, 0, 0, 0", with(7, MAX, 0, 0, 0).digest(7), MAX);
        Check.due("four MAX", with(7, MAX, MAX, MAX, MAX).digest(7), -10);
        Check.due("four -1", with(7, -1, -1, -1, -1).digest(7), -10);
    }

    private static void digestWhileDamaged() {
        for (int mask : Check.MASKS) {
            for (int c = 0; c <= 4; c++) {
                SelfHealStripes x = with(7, 1, 10, 100, 1000);
                Check.due("damage", x.damage(7, c, mask), 1);
                Check.due("digest(7)", x.digest(7), 4321);
                Check.due("digest(7) again", x.digest(7), 4321);
                Check.due("damaged(7)", x.damaged(7), c);
                Check.due("healed()", x.healed(), 0);
            }
        }
    }

    private static void digestOfShorter() {
        SelfHealStripes x = with(0, 1, 10, 100, 1000);
        int[] digests = {0, 1, 21, 321, 4321};
        for (int size = 4; size >= 1; size--) {
            Check.store(x, 0, Arrays.copyOf(new int[] {1, 10, 100, 1000}, size));
            Check.due("digest(0) of " + size, x.digest(0), digests[size]);
        }
        x.delete(0);
        Check.due("digest(0) of none", x.digest(0), 0);
    }
}
