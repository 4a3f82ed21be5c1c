/** Long runs of mixed calls, the same in every test run, whose answers must be the model's. */
public final class LongRunsTest {
    private static final int RUNS = 4000;
    // The last look needs up to 90 of the 512 calls that an object is good for.
    private static final int CALLS_BEFORE_LAST_LOOK = 512 - 90;
    private static final int[] EDGES = {
        0, 1, -1, 2, 3, 4, 5, 7, 8, 255, Integer.MIN_VALUE, Integer.MAX_VALUE
    };

    private final Both both;
    private final int run;
    private final int extentsInUse;
    private long seed;

    private LongRunsTest(int run) {
        this.run = run;
        this.both = new Both(() -> "run " + run);
        this.seed = run * 7919L + 1;
        // Few extents in some runs, so that calls meet in one extent more often.
        this.extentsInUse = run % 3 == 0 ? 8 : 1 + run % 3;
    }

    public static void main(String[] args) {
        for (int run = 0; run < RUNS && !Check.enough(); run++) {
            new LongRunsTest(run).go();
        }
        Check.finish();
    }

    private void go() {
        boolean watched = run % 2 == 0;
        while (both.calls() < CALLS_BEFORE_LAST_LOOK) {
            step();
            if (watched) {
                both.lookAtFirst(extentsInUse);
            }
        }
        lastLook();
    }

    private int below(int bound) {
        seed = seed * 6364136223846793005L + 1442695040888963407L;
        return (int) ((seed >>> 33) % bound);
    }

    private int number() {
        return below(3) == 0 ? EDGES[below(EDGES.length)] : below(1 << 16) * 65537 ^ below(1 << 16);
    }

    private int extent() {
        return below(25) == 0 ? EDGES[below(EDGES.length)] : below(extentsInUse);
    }

    private int column() {
        return below(25) == 0 ? EDGES[below(EDGES.length)] : below(5);
    }

    // Small masks meet again soon, so that damage is undone in some runs.
    private int mask() {
        return below(2) == 0 ? below(4) : number();
    }

    private void step() {
        int kind = below(30);
        if (kind < 7) {
            both.draft(number());
        } else if (kind < 10) {
            both.put(extent());
        } else if (kind < 17) {
            both.damage(extent(), column(), mask());
        } else if (kind < 20) {
            both.read(extent(), column());
        } else if (kind < 23) {
            both.lose(column());
        } else if (kind < 25) {
            both.copy(extent(), extent());
        } else if (kind < 26) {
            both.delete(extent());
        } else if (kind < 28) {
            both.scrub();
        } else if (kind < 29) {
            both.lookAt(extent());
        } else if (below(4) == 0) {
            both.scrap();
        }
    }

    private void lastLook() {
        both.lookAtFirst(8);
        for (int e = 0; e < 8; e++) {
            both.readAll(e);
        }
        both.healed();
    }
}
