/** One method for each promise of the document: ordinary inputs, the named edges, wrong inputs. */
public final class PromisesTest {
    private static final int BAD_ARG = SelfHealStripes.BAD_ARG;
    private static final int FULL = SelfHealStripes.FULL;
    private static final int ABSENT = SelfHealStripes.ABSENT;
    private static final int DAMAGED = SelfHealStripes.DAMAGED;
    private static final int ALL_SOUND = Check.ALL_SOUND;
    private static final int MIN = Integer.MIN_VALUE;
    private static final int MAX = Integer.MAX_VALUE;

    public static void main(String[] args) {
        constants();
        promise1NewObject();
        promise2Draft();
        promise3Scrap();
        promise4Put();
        promise5Delete();
        promise6Size();
        promise7Read();
        promise7ReadHealsEveryWordColumn();
        promise8Damage();
        promise8DamageRefused();
        promise9Damaged();
        promise10Scrub();
        promise11Healed();
        promise12Lose();
        promise12LoseEveryDiskOfEverySize();
        promise13Copy();
        promise13CopyRefused();
        promise14Digest();
        promise15OrderAndLimits();
        objectsAreApart();
        Check.finish();
    }

    private static void constants() {
        Check.due("BAD_ARG", BAD_ARG, -1);
        Check.due("FULL", FULL, -2);
        Check.due("ABSENT", ABSENT, -3);
        Check.due("DAMAGED", DAMAGED, -4);
    }

    private static void promise1NewObject() {
        SelfHealStripes x = Check.fresh();
        for (int e = 0; e < 8; e++) {
            Check.holds("1 new", x, e, ALL_SOUND);
            Check.due("1 read(" + e + ", 0)", x.read(e, 0), 0);
            Check.due("1 delete(" + e + ")", x.delete(e), ABSENT);
            Check.due("1 put(" + e + ")", x.put(e), ABSENT);
            Check.due("1 damage(" + e + ", 0, 1)", x.damage(e, 0, 1), ABSENT);
        }
        Check.due("1 healed()", x.healed(), 0);
        Check.due("1 scrub()", x.scrub(), 0);
        Check.due("1 lose(0)", x.lose(0), 0);
        Check.due("1 copy(0, 1)", x.copy(0, 1), 0);
        Check.due("1 draft(9)", x.draft(9), 1);
    }

    private static void promise2Draft() {
        SelfHealStripes x = Check.fresh();
        Check.due("2 draft(0)", x.draft(0), 1);
        Check.due("2 draft(MIN)", x.draft(MIN), 2);
        Check.due("2 draft(MAX)", x.draft(MAX), 3);
        Check.due("2 draft(-1)", x.draft(-1), 4);
        Check.due("2 fifth draft", x.draft(77), FULL);
        Check.due("2 sixth draft", x.draft(78), FULL);
        Check.due("2 put(7)", x.put(7), 4);
        Check.reads("2 after a refused draft", x, 7, 0, MIN, MAX, -1);
        Check.due("2 draft after put", x.draft(5), 1);
        Check.holds("2 a draft alone stores nothing", x, 0, ALL_SOUND);
    }

    private static void promise3Scrap() {
        SelfHealStripes x = Check.fresh();
        x.scrap();
        Check.due("3 put(0) of a scrapped empty draft", x.put(0), ABSENT);
        for (int word = 1; word <= 4; word++) {
            x.draft(word);
        }
        x.scrap();
        Check.due("3 put(0) after scrap", x.put(0), ABSENT);
        Check.store(x, 0, 9, 8);
        Check.due("3 draft(1)", x.draft(1), 1);
        x.scrap();
        Check.holds("3 scrap leaves the extents", x, 0, ALL_SOUND, 9, 8);
        Check.reads("3", x, 0, 9, 8);
    }

    private static void promise4Put() {
        SelfHealStripes x = Check.fresh();
        Check.store(x, 0, 1);
        Check.store(x, 7, 2, 3);
        Check.store(x, 3, 4, 5, 6);
        Check.store(x, 4, 7, 8, 9, 10);
        Check.holds("4", x, 0, ALL_SOUND, 1);
        Check.holds("4", x, 7, ALL_SOUND, 2, 3);
        Check.holds("4", x, 3, ALL_SOUND, 4, 5, 6);
        Check.holds("4", x, 4, ALL_SOUND, 7, 8, 9, 10);
        Check.due("4 the draft is empty afterwards", x.put(4), ABSENT);
        Check.reads("4 a refused put", x, 4, 7, 8, 9, 10);

        Check.due("4 damage(4, 4, 3)", x.damage(4, 4, 3), 1);
        Check.store(x, 4, 20);
        Check.holds("4 shorter over damaged parity", x, 4, ALL_SOUND, 20);
        Check.due("4 damage(4, 0, 3)", x.damage(4, 0, 3), 1);
        Check.store(x, 4, 30, 31, 32);
        Check.holds("4 longer over a damaged word", x, 4, ALL_SOUND, 30, 31, 32);
        Check.reads("4", x, 4, 30, 31, 32);
        Check.due("4 put heals nothing", x.healed(), 0);

        x.draft(41);
        for (int e : Check.NOT_EXTENTS) {
            Check.due("4 put(" + e + ")", x.put(e), BAD_ARG);
        }
        Check.due("4 the draft stays in a refused put", x.put(1), 1);
        Check.reads("4", x, 1, 41);
        Check.holds("4 others stay", x, 0, ALL_SOUND, 1);
        Check.holds("4 others stay", x, 3, ALL_SOUND, 4, 5, 6);
    }

    private static void promise5Delete() {
        SelfHealStripes x = Check.fresh();
        for (int size = 1; size <= 4; size++) {
            for (int i = 0; i < size; i++) {
                x.draft(i + 10);
            }
            x.put(size);
        }
        x.draft(99);
        for (int size = 1; size <= 4; size++) {
            Check.due("5 delete(" + size + ")", x.delete(size), size);
            Check.holds("5 deleted", x, size, ALL_SOUND);
            Check.due("5 read(" + size + ", 0)", x.read(size, 0), 0);
            Check.due("5 delete(" + size + ") again", x.delete(size), ABSENT);
        }
        Check.due("5 the draft stays", x.put(0), 1);
        Check.holds("5", x, 0, ALL_SOUND, 99);
        for (int e : Check.NOT_EXTENTS) {
            Check.due("5 delete(" + e + ")", x.delete(e), BAD_ARG);
        }

        Check.due("5 damage(0, 0, 1)", x.damage(0, 0, 1), 1);
        Check.due("5 delete(0) damaged", x.delete(0), 1);
        Check.due("5 damaged(0)", x.damaged(0), ABSENT);
        Check.due("5 its damage is gone for lose", x.lose(0), 0);
        Check.due("5 its damage is gone for scrub", x.scrub(), 0);
        Check.due("5 its damage is gone for copy", x.copy(0, 1), 0);
        Check.due("5 delete heals nothing", x.healed(), 0);
    }

    private static void promise6Size() {
        SelfHealStripes x = Check.fresh();
        Check.store(x, 0, 0);
        Check.store(x, 7, 0, 0, 0, 0);
        Check.due("6 size(0)", x.size(0), 1);
        Check.due("6 size(7)", x.size(7), 4);
        Check.due("6 size(6) absent", x.size(6), 0);
        for (int e : Check.NOT_EXTENTS) {
            Check.due("6 size(" + e + ")", x.size(e), BAD_ARG);
        }
        x.damage(7, 2, 1);
        Check.due("6 size(7) damaged", x.size(7), 4);
        Check.due("6 size heals nothing", x.damaged(7), 2);
    }

    private static void promise7Read() {
        SelfHealStripes x = Check.fresh();
        Check.store(x, 2, 5, -6, MIN);
        Check.reads("7", x, 2, 5, -6, MIN);
        x.damage(2, 1, MAX);
        for (int i : new int[] {-1, 3, 4, 5, MIN, MAX}) {
            Check.due("7 read(2, " + i + ")", x.read(2, i), 0);
            Check.due("7 no word, no healing: damaged(2)", x.damaged(2), 1);
        }
        for (int e : Check.NOT_EXTENTS) {
            Check.due("7 read(" + e + ", 0)", x.read(e, 0), 0);
        }
        Check.due("7 read(3, 0) absent", x.read(3, 0), 0);
        Check.due("7 healed()", x.healed(), 0);
        Check.due("7 read of another word", x.read(2, 2), MIN);
        Check.holds("7 it heals", x, 2, ALL_SOUND, 5, -6, MIN);
        Check.due("7 healed()", x.healed(), 1);
        Check.due("7 read(2, 1)", x.read(2, 1), -6);
        Check.due("7 nothing is left to heal", x.healed(), 1);

        x.damage(2, 3, -1);
        Check.reads("7 damaged parity", x, 2, 5, -6, MIN);
        Check.holds("7 parity is not healed", x, 2, 3, 5, -6, MIN);
        Check.due("7 healed()", x.healed(), 1);

        Check.store(x, 5, 1, 2);
        x.damage(5, 0, 8);
        Check.due("7 a read heals its own extent alone", x.read(2, 0), 5);
        Check.due("7 damaged(5)", x.damaged(5), 0);
    }

    private static void promise7ReadHealsEveryWordColumn() {
        int[] all = {3, MIN, -1, MAX};
        int[] masks = {1, -1, MIN, MAX, 3};
        for (int size = 1; size <= 4; size++) {
            int[] words = java.util.Arrays.copyOf(all, size);
            for (int mask : masks) {
                for (int c = 0; c <= size; c++) {
                    for (int i = 0; i < size; i++) {
                        SelfHealStripes x = Check.fresh();
                        String when = "7 size " + size + ", column " + c + ", mask " + mask + ", word " + i;
                        Check.store(x, 6, words);
                        Check.due(when + ": damage", x.damage(6, c, mask), 1);
                        Check.holds(when, x, 6, c, words);
                        Check.due(when + ": read", x.read(6, i), words[i]);
                        Check.holds(when, x, 6, c == size ? size : ALL_SOUND, words);
                        Check.due(when + ": healed", x.healed(), c == size ? 0 : 1);
                        Check.reads(when, x, 6, words);
                    }
                }
            }
        }
    }

    private static void promise8Damage() {
        for (int size = 1; size <= 4; size++) {
            for (int c = 0; c <= size; c++) {
                SelfHealStripes x = Check.fresh();
                int[] words = java.util.Arrays.copyOf(new int[] {7, 7, 0, -9}, size);
                String when = "8 size " + size + ", column " + c;
                Check.store(x, 1, words);
                Check.due(when + ": mask 0 on sound", x.damage(1, c, 0), 0);
                Check.holds(when, x, 1, ALL_SOUND, words);
                Check.due(when + ": mask 12", x.damage(1, c, 12), 1);
                Check.due(when + ": mask 0 on damaged", x.damage(1, c, 0), 1);
                Check.holds(when, x, 1, c, words);
                Check.due(when + ": mask 10", x.damage(1, c, 10), 1);
                Check.holds(when, x, 1, c, words);
                Check.due(when + ": mask 12 ^ 10", x.damage(1, c, 6), 0);
                Check.holds(when, x, 1, ALL_SOUND, words);
                Check.due(when + ": mask MIN", x.damage(1, c, MIN), 1);
                Check.due(when + ": mask MAX", x.damage(1, c, MAX), 1);
                Check.due(when + ": mask -1", x.damage(1, c, -1), 0);
                Check.due(when + ": undoing damage is not healing", x.healed(), 0);
                Check.due(when + ": scrub", x.scrub(), 0);
                Check.reads(when, x, 1, words);
            }
        }
    }

    private static void promise8DamageRefused() {
        SelfHealStripes x = Check.fresh();
        Check.store(x, 3, 1, 2);
        for (int e : Check.NOT_EXTENTS) {
            Check.due("8 damage(" + e + ", 0, 1)", x.damage(e, 0, 1), BAD_ARG);
            Check.due("8 damage(" + e + ", -1, 0)", x.damage(e, -1, 0), BAD_ARG);
        }
        Check.due("8 absent", x.damage(4, 0, 1), ABSENT);
        Check.due("8 absent before the column", x.damage(4, -1, 1), ABSENT);
        Check.due("8 absent before the column", x.damage(4, 5, 0), ABSENT);
        for (int c : new int[] {-1, 3, 4, 5, MIN, MAX}) {
            Check.due("8 damage(3, " + c + ", 1)", x.damage(3, c, 1), BAD_ARG);
        }
        Check.holds("8 refused calls", x, 3, ALL_SOUND, 1, 2);
        x.damage(3, 2, 1);
        Check.due("8 the column's range before other damage", x.damage(3, 3, 1), BAD_ARG);
        Check.due("8 the column's range before other damage", x.damage(3, -1, 1), BAD_ARG);
        Check.due("8 another column", x.damage(3, 0, 1), DAMAGED);
        Check.due("8 another column", x.damage(3, 1, MIN), DAMAGED);
        Check.holds("8 refused calls", x, 3, 2, 1, 2);
        Check.due("8 the mask is as it was", x.damage(3, 2, 1), 0);
        x.damage(3, 0, 5);
        Check.due("8 parity while a word is damaged", x.damage(3, 2, 5), DAMAGED);
        Check.due("8 the mask is as it was", x.damage(3, 0, 5), 0);
        Check.reads("8", x, 3, 1, 2);
        Check.due("8 healed()", x.healed(), 0);
    }

    private static void promise9Damaged() {
        SelfHealStripes x = Check.fresh();
        Check.store(x, 0, 1, 2, 3, 4);
        Check.due("9 damaged(1)", x.damaged(1), ABSENT);
        Check.due("9 damaged(0)", x.damaged(0), -5);
        for (int c = 0; c <= 4; c++) {
            x.damage(0, c, 1);
            Check.due("9 damaged(0)", x.damaged(0), c);
            Check.due("9 damaged(0) heals nothing", x.damaged(0), c);
            x.damage(0, c, 1);
        }
        for (int e : Check.NOT_EXTENTS) {
            Check.due("9 damaged(" + e + ")", x.damaged(e), BAD_ARG);
        }
    }

    private static void promise10Scrub() {
        SelfHealStripes x = Check.fresh();
        int[] words = {4, -3, 2, MIN};
        for (int e = 0; e < 8; e++) {
            Check.store(x, e, words);
            Check.due("10 damage", x.damage(e, e % 5, e - 4 == 0 ? -1 : e - 4), 1);
        }
        Check.due("10 scrub() of all", x.scrub(), 8);
        for (int e = 0; e < 8; e++) {
            Check.holds("10 scrubbed", x, e, ALL_SOUND, words);
            Check.reads("10 scrubbed", x, e, words);
        }
        Check.due("10 scrub() of none", x.scrub(), 0);
        x.delete(3);
        x.damage(4, 4, 1);
        x.damage(7, 0, 1);
        x.draft(6);
        Check.due("10 scrub() of two", x.scrub(), 2);
        Check.holds("10 absent stays absent", x, 3, ALL_SOUND);
        Check.due("10 the draft stays", x.put(3), 1);
        Check.due("10 healed()", x.healed(), 10);
        Check.due("10 parity is right again", x.damage(4, 0, 9), 1);
        Check.reads("10 parity is right again", x, 4, words);
    }

    private static void promise11Healed() {
        SelfHealStripes x = Check.fresh();
        Check.store(x, 0, 1, 2);
        Check.store(x, 1, 3);
        for (int round = 0; round < 5; round++) {
            x.damage(0, round % 2, 6);
            x.read(0, 0);
            Check.due("11 healed() by read", x.healed(), 2 * round + 1);
            x.damage(1, round % 2, 6);
            x.scrub();
            Check.due("11 healed() by scrub", x.healed(), 2 * round + 2);
        }
        x.damage(0, 0, 1);
        x.damage(0, 0, 1);
        x.damage(0, 0, 1);
        x.copy(1, 0);
        x.damage(0, 0, 1);
        x.draft(1);
        x.put(0);
        x.damage(0, 0, 1);
        x.delete(0);
        x.lose(0);
        x.digest(1);
        Check.due("11 other calls do not count", x.healed(), 10);
        Check.due("11 healed() changes nothing", x.healed(), 10);
    }

    private static void promise12Lose() {
        SelfHealStripes x = Check.fresh();
        Check.store(x, 7, 1, 2);
        for (int d : new int[] {-1, 5, 6, MIN, MAX}) {
            Check.due("12 lose(" + d + ")", x.lose(d), BAD_ARG);
        }
        for (int c = 0; c <= 2; c++) {
            x.damage(7, c, 4);
            for (int d = 0; d < 5; d++) {
                Check.due("12 lose(" + d + ") while damaged", x.lose(d), DAMAGED);
            }
            Check.holds("12 a refused lose", x, 7, c, 1, 2);
            Check.due("12 the mask is as it was", x.damage(7, c, 4), 0);
        }
        Check.due("12 lose(4)", x.lose(4), 0);
        Check.due("12 healed()", x.healed(), 0);
    }

    private static void promise12LoseEveryDiskOfEverySize() {
        int[] all = {MAX, -7, MIN, 12};
        for (int d = 0; d < 5; d++) {
            SelfHealStripes x = Check.fresh();
            for (int size = 1; size <= 4; size++) {
                Check.store(x, size, java.util.Arrays.copyOf(all, size));
                Check.store(x, 8 - size, java.util.Arrays.copyOf(all, size));
            }
            x.draft(50);
            Check.due("12 lose(" + d + ")", x.lose(d), 0);
            Check.due("12 the draft stays", x.draft(51), 2);
            Check.holds("12 absent stays absent", x, 0, ALL_SOUND);
            for (int size = 1; size <= 4; size++) {
                int[] words = java.util.Arrays.copyOf(all, size);
                Check.holds("12 lost " + d, x, 8 - size, ALL_SOUND, words);
                Check.reads("12 lost " + d, x, size, words);
                for (int c = 0; c <= size; c++) {
                    Check.due("12 damage after lose", x.damage(size, c, 21), 1);
                    Check.holds("12 lost " + d + ", then damaged", x, size, c, words);
                    Check.due("12 damage undone after lose", x.damage(size, c, 21), 0);
                }
            }
            Check.due("12 put(0)", x.put(0), 2);
            Check.reads("12", x, 0, 50, 51);
            Check.due("12 healed()", x.healed(), 0);
        }
    }

    private static void promise13Copy() {
        SelfHealStripes x = Check.fresh();
        Check.store(x, 0, 1, 2, 3, 4);
        Check.store(x, 1, 9);
        Check.due("13 copy(0, 7)", x.copy(0, 7), 4);
        Check.holds("13 to", x, 7, ALL_SOUND, 1, 2, 3, 4);
        Check.holds("13 from", x, 0, ALL_SOUND, 1, 2, 3, 4);
        Check.due("13 copy(0, 0)", x.copy(0, 0), 4);
        Check.holds("13 onto itself", x, 0, ALL_SOUND, 1, 2, 3, 4);

        x.damage(7, 3, 5);
        Check.due("13 copy(1, 7) over damage", x.copy(1, 7), 1);
        Check.holds("13 over damage", x, 7, ALL_SOUND, 9);
        Check.due("13 copy(0, 7) over a shorter one", x.copy(0, 7), 4);
        Check.reads("13 over a shorter one", x, 7, 1, 2, 3, 4);
        for (int c = 0; c <= 4; c++) {
            Check.due("13 damage in the copy", x.damage(7, c, 3), 1);
            Check.holds("13 damage in the copy", x, 7, c, 1, 2, 3, 4);
            Check.holds("13 damage in the copy", x, 0, ALL_SOUND, 1, 2, 3, 4);
            x.damage(7, c, 3);
        }
        Check.store(x, 0, 8, 8);
        Check.holds("13 a copy stands alone", x, 7, ALL_SOUND, 1, 2, 3, 4);

        x.draft(5);
        x.damage(7, 4, 3);
        Check.due("13 copy(6, 7) of an absent one", x.copy(6, 7), 0);
        Check.holds("13 absent", x, 7, ALL_SOUND);
        Check.due("13 its damage is gone", x.lose(0), 0);
        Check.due("13 copy(6, 6)", x.copy(6, 6), 0);
        Check.due("13 the draft stays", x.put(6), 1);
        Check.due("13 healed()", x.healed(), 0);
    }

    private static void promise13CopyRefused() {
        SelfHealStripes x = Check.fresh();
        Check.store(x, 0, 1, 2);
        Check.store(x, 1, 9);
        for (int e : Check.NOT_EXTENTS) {
            Check.due("13 copy(" + e + ", 0)", x.copy(e, 0), BAD_ARG);
            Check.due("13 copy(0, " + e + ")", x.copy(0, e), BAD_ARG);
            Check.due("13 copy(" + e + ", " + e + ")", x.copy(e, e), BAD_ARG);
            Check.due("13 copy(5, " + e + ")", x.copy(5, e), BAD_ARG);
        }
        for (int c = 0; c <= 2; c++) {
            x.damage(0, c, 6);
            Check.due("13 copy(0, 1) damaged", x.copy(0, 1), DAMAGED);
            Check.due("13 copy(0, 0) damaged", x.copy(0, 0), DAMAGED);
            Check.due("13 the extents before the damage", x.copy(0, 8), BAD_ARG);
            Check.holds("13 refused", x, 0, c, 1, 2);
            Check.holds("13 refused", x, 1, ALL_SOUND, 9);
            Check.due("13 the mask is as it was", x.damage(0, c, 6), 0);
        }
        Check.due("13 healed()", x.healed(), 0);
    }

    private static void promise14Digest() {
        SelfHealStripes x = Check.fresh();
        Check.store(x, 0, 5);
        Check.store(x, 1, 10, 100, 1000, 10000);
        Check.store(x, 2, MAX, MAX, MAX, MIN);
        Check.store(x, 3, MIN, MIN);
        Check.due("14 digest(0)", x.digest(0), 5);
        Check.due("14 digest(1)", x.digest(1), 43210);
        Check.due("14 digest(2) wraps", x.digest(2), -6);
        Check.due("14 digest(3) wraps", x.digest(3), MIN);
        Check.due("14 digest(4) absent", x.digest(4), 0);
        for (int e : Check.NOT_EXTENTS) {
            Check.due("14 digest(" + e + ")", x.digest(e), 0);
        }
        for (int c = 0; c <= 4; c++) {
            x.damage(1, c, -1);
            Check.due("14 digest(1) damaged", x.digest(1), 43210);
            Check.due("14 it heals nothing", x.damaged(1), c);
            Check.due("14 the mask is as it was", x.damage(1, c, -1), 0);
        }
        Check.due("14 healed()", x.healed(), 0);
    }

    private static void promise15OrderAndLimits() {
        SelfHealStripes x = Check.fresh();
        Check.due("15 put(8) of an empty draft", x.put(8), BAD_ARG);
        Check.due("15 put(-1) of an empty draft", x.put(-1), BAD_ARG);
        Check.store(x, 0, 1, 2);
        x.damage(0, 1, 1);
        Check.due("15 lose(5) while damaged", x.lose(5), BAD_ARG);
        Check.due("15 lose(-1) while damaged", x.lose(-1), BAD_ARG);
        Check.due("15 another column with mask 0", x.damage(0, 0, 0), DAMAGED);
        Check.due("15 parity with mask 0", x.damage(0, 2, 0), DAMAGED);
        Check.due("15 the damaged column with mask 0", x.damage(0, 1, 0), 1);
        x.delete(0);
        Check.due("15 copy of an extent deleted while damaged", x.copy(0, 1), 0);
        Check.due("15 copy of a never present extent", x.copy(7, 0), 0);
    }

    private static void objectsAreApart() {
        SelfHealStripes x = Check.fresh();
        SelfHealStripes y = Check.fresh();
        Check.store(x, 0, 1, 2);
        x.damage(0, 0, 1);
        x.draft(4);
        Check.holds("two objects", y, 0, ALL_SOUND);
        Check.due("two objects: lose(0)", y.lose(0), 0);
        Check.due("two objects: put(0)", y.put(0), ABSENT);
        x.scrub();
        Check.due("two objects: healed()", y.healed(), 0);
    }
}
