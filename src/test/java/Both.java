import java.util.function.Supplier;

/** The program and the model side by side: each call is made on both, and the answers must agree. */
final class Both {
    private final SelfHealStripes program = Check.fresh();
    private final Model model = new Model();
    private final Supplier<String> run;
    private int calls = 0;

    /** What the run is called is asked for only if an answer is wrong. */
    Both(Supplier<String> run) {
        this.run = run;
    }

    int calls() {
        return calls;
    }

    void draft(int word) {
        same("draft", program.draft(word), model.draft(word), word);
    }

    void scrap() {
        program.scrap();
        model.scrap();
        calls++;
    }

    void put(int e) {
        same("put", program.put(e), model.put(e), e);
    }

    void delete(int e) {
        same("delete", program.delete(e), model.delete(e), e);
    }

    void size(int e) {
        same("size", program.size(e), model.size(e), e);
    }

    void read(int e, int i) {
        same("read", program.read(e, i), model.read(e, i), e, i);
    }

    void damage(int e, int c, int mask) {
        same("damage", program.damage(e, c, mask), model.damage(e, c, mask), e, c, mask);
    }

    void damaged(int e) {
        same("damaged", program.damaged(e), model.damaged(e), e);
    }

    void scrub() {
        same("scrub", program.scrub(), model.scrub());
    }

    void healed() {
        same("healed", program.healed(), model.healed());
    }

    void lose(int d) {
        same("lose", program.lose(d), model.lose(d), d);
    }

    void copy(int from, int to) {
        same("copy", program.copy(from, to), model.copy(from, to), from, to);
    }

    void digest(int e) {
        same("digest", program.digest(e), model.digest(e), e);
    }

    /** All that can be seen of an extent without healing it. */
    void lookAt(int e) {
        size(e);
        damaged(e);
        digest(e);
    }

    /** All that can be seen of the first extents without healing them. */
    void lookAtFirst(int extents) {
        for (int e = 0; e < extents; e++) {
            lookAt(e);
        }
        healed();
    }

    void readAll(int e) {
        for (int i = 0; i < 4; i++) {
            read(e, i);
        }
    }

    private void same(String call, int got, int want, int... arguments) {
        calls++;
        if (got != want) {
            String shown = java.util.Arrays.toString(arguments).replace('[', '(').replace(']', ')');
            Check.due(run.get() + ", call " + calls + ": " + call + shown, got, want);
        }
    }
}
