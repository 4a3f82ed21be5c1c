/** Long runs of mixed calls, the same in every test run, whose answers must be the model's. */
public final class LongRunsTest {
    private static final int RUNS = 4000;
    // The last look needs up to 90 of the 512 calls that an object is good for.
    private static final int CALLS_BEFORE_LAST_LOOK = 512 - 90;
    private static final int[] EDGES = {
        0, 1, -1, 2, 3, 4, 5, 7, 8, 255, Integer.MIN_VALUE, Integer.MAX_VALUE
    };

    private final SelfHealStripes program = new SelfHealStripes();
    private final Model model = new Model();
    private final int run;
    private final int extentsInUse;
    private long seed;
    private int calls = 0;

    private LongRunsTest(int run) {
        this.run = run;
        this.seed = run * 7919L + 1;
        // Few extents in some runs, so that calls meet in one extent more often.
        this.extentsInUse = run % 3 == 0 ? 8 : 1 + run % 3;
    }

    public static void main(String[] args) {
        for (int run = 0; run < RUNS; run++) {
            new LongRunsTest(run).go();
        }
        Check.finish();
    }

    private void go() {
        boolean watched = run % 2 == 0;
        while (calls < CALLS_BEFORE_LAST_LOOK) {
            step();
            if (watched) {
                lookAtAll();
            }
        }
        readAll();
    }

    private int below(int bound) {
        seed = seed * 6364136223846793005L + 1442695040888963407L;
        return (int) ((seed >>> 33) % bound);
    }

    private int number() {
        return below(3) == 0 ? EDGES[below(EDGES.length)] : below(1 << 16) * 65537 ^ below(1 << 16);
    }

    private int extent() {
        return below(25) == 0 ? EDGES[below(EDGES.length)] : below(extentsInUse);
    }

    private int column() {
        return below(25) == 0 ? EDGES[below(EDGES.length)] : below(5);
    }

    // Small masks meet again soon, so that damage is undone in some runs.
    private int mask() {
        return below(2) == 0 ? below(4) : number();
    }

    private void step() {
        int kind = below(30);
        if (kind < 7) {
            int word = number();
            due("draft(" + word + ")", program.draft(word), model.draft(word));
        } else if (kind < 10) {
            int e = extent();
            due("put(" + e + ")", program.put(e), model.put(e));
        } else if (kind < 17) {
            int e = extent();
            int c = column();
            int mask = mask();
            due("damage(" + e + ", " + c + ", " + mask + ")", program.damage(e, c, mask), model.damage(e, c, mask));
        } else if (kind < 20) {
            read(extent(), column());
        } else if (kind < 23) {
            int d = column();
            due("lose(" + d + ")", program.lose(d), model.lose(d));
        } else if (kind < 25) {
            int from = extent();
            int to = extent();
            due("copy(" + from + ", " + to + ")", program.copy(from, to), model.copy(from, to));
        } else if (kind < 26) {
            int e = extent();
            due("delete(" + e + ")", program.delete(e), model.delete(e));
        } else if (kind < 28) {
            due("scrub()", program.scrub(), model.scrub());
        } else if (kind < 29) {
            lookAt(extent());
        } else if (below(4) == 0) {
            program.scrap();
            model.scrap();
            calls++;
        }
    }

    private void read(int e, int i) {
        due("read(" + e + ", " + i + ")", program.read(e, i), model.read(e, i));
    }

    private void lookAt(int e) {
        due("size(" + e + ")", program.size(e), model.size(e));
        due("damaged(" + e + ")", program.damaged(e), model.damaged(e));
        due("digest(" + e + ")", program.digest(e), model.digest(e));
    }

    private void lookAtAll() {
        for (int e = 0; e < extentsInUse; e++) {
            lookAt(e);
        }
        due("healed()", program.healed(), model.healed());
    }

    private void readAll() {
        lookAtAll();
        for (int e = 0; e < 8; e++) {
            for (int i = 0; i < 4; i++) {
                read(e, i);
            }
        }
        due("healed()", program.healed(), model.healed());
    }

    private void due(String call, int got, int want) {
        calls++;
        Check.due("run " + run + ", call " + calls + ": " + call, got, want);
    }
}
