/** What the tests share: counting wrong answers and making objects in a known state. */
final class Check {
    static final int ALL_SOUND = -5;
    static final int[] NOT_EXTENTS = {-1, 8, 9, -8, 256, Integer.MIN_VALUE, Integer.MAX_VALUE};

    static final int[] NOT_DISKS = {-1, 5, 6, 8, Integer.MIN_VALUE, Integer.MAX_VALUE};
    static final int[] MASKS = {1, -1, 255, Integer.MIN_VALUE, Integer.MAX_VALUE};

    private static final int ENOUGH = 100;
    private static int wrong = 0;
    private static String sentence = "";

    private Check() {
    }

    /** A test of its own for one sentence of the document; it counts as failed if it throws. */
    static void sentence(String words, Runnable test) {
        sentence = "[" + words + "] ";
        try {
            test.run();
        } catch (RuntimeException | Error thrown) {
            wrong++;
            System.out.println(sentence + "threw " + thrown);
        }
        sentence = "";
    }

    static void due(String call, long got, long want) {
        if (got != want) {
            wrong++;
            System.out.println(sentence + call + " answered " + got + ", due is " + want);
        }
    }

    /** A test of very many cases ends here: more of the same faults would tell nothing new. */
    static boolean enough() {
        return wrong >= ENOUGH;
    }

    static void finish() {
        System.out.println(wrong == 0 ? "all answers are as due" : wrong + " answers are not as due");
        if (wrong != 0) {
            System.exit(1);
        }
    }

    static SelfHealStripes fresh() {
        return new SelfHealStripes();
    }

    static void store(SelfHealStripes x, int e, int... words) {
        for (int i = 0; i < words.length; i++) {
            due("draft(" + words[i] + ")", x.draft(words[i]), i + 1);
        }
        due("put(" + e + ")", x.put(e), words.length);
    }

    /** Looks at an extent without healing it; the damaged column is ALL_SOUND if there is none. */
    static void holds(String when, SelfHealStripes x, int e, int damagedColumn, int... words) {
        int digest = 0;
        for (int i = 0; i < words.length; i++) {
            digest += (i + 1) * words[i];
        }
        due(when + ": size(" + e + ")", x.size(e), words.length);
        due(when + ": digest(" + e + ")", x.digest(e), digest);
        due(when + ": damaged(" + e + ")", x.damaged(e),
                words.length == 0 ? SelfHealStripes.ABSENT : damagedColumn);
    }

    /** Reads all words of an extent, which heals a damaged word column in it. */
    static void reads(String when, SelfHealStripes x, int e, int... words) {
        for (int i = 0; i < words.length; i++) {
            due(when + ": read(" + e + ", " + i + ")", x.read(e, i), words[i]);
        }
    }
}
