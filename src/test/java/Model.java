/**
 * The document said again in another way: the words as they were put stay apart from the damage,
 * so nothing is ever rebuilt here. Used to tell what the program must answer in long runs.
 */
final class Model {
    private static final class Extent {
        int[] words = new int[0];
        int column = -5;
        int mask = 0;
    }

    private final Extent[] extents = new Extent[8];
    private final java.util.List<Integer> draft = new java.util.ArrayList<>();
    private int healed = 0;

    Model() {
        for (int e = 0; e < 8; e++) {
            extents[e] = new Extent();
        }
    }

    private static boolean outside(int e) {
        return e < 0 || e > 7;
    }

    int draft(int word) {
        if (draft.size() == 4) return -2;
        draft.add(word);
        return draft.size();
    }

    void scrap() {
        draft.clear();
    }

    int put(int e) {
        if (outside(e)) return -1;
        if (draft.isEmpty()) return -3;
        extents[e] = new Extent();
        extents[e].words = draft.stream().mapToInt(Integer::intValue).toArray();
        draft.clear();
        return extents[e].words.length;
    }

    int delete(int e) {
        if (outside(e)) return -1;
        int had = extents[e].words.length;
        extents[e] = new Extent();
        return had == 0 ? -3 : had;
    }

    int size(int e) {
        return outside(e) ? -1 : extents[e].words.length;
    }

    int read(int e, int i) {
        if (outside(e) || i < 0 || i >= extents[e].words.length) return 0;
        if (extents[e].mask != 0 && extents[e].column != extents[e].words.length) heal(extents[e]);
        return extents[e].words[i];
    }

    int damage(int e, int c, int mask) {
        if (outside(e)) return -1;
        Extent x = extents[e];
        if (x.words.length == 0) return -3;
        if (c < 0 || c > x.words.length) return -1;
        if (x.mask != 0 && x.column != c) return -4;
        x.mask ^= mask;
        x.column = x.mask == 0 ? -5 : c;
        return x.mask == 0 ? 0 : 1;
    }

    int damaged(int e) {
        if (outside(e)) return -1;
        return extents[e].words.length == 0 ? -3 : extents[e].column;
    }

    int scrub() {
        int before = healed;
        for (Extent x : extents) {
            if (x.mask != 0) heal(x);
        }
        return healed - before;
    }

    int healed() {
        return healed;
    }

    int lose(int d) {
        if (d < 0 || d > 4) return -1;
        for (Extent x : extents) {
            if (x.mask != 0) return -4;
        }
        return 0;
    }

    int copy(int from, int to) {
        if (outside(from) || outside(to)) return -1;
        if (extents[from].mask != 0) return -4;
        Extent copied = new Extent();
        copied.words = extents[from].words.clone();
        extents[to] = copied;
        return copied.words.length;
    }

    int digest(int e) {
        if (outside(e)) return 0;
        int sum = 0;
        for (int i = 0; i < extents[e].words.length; i++) {
            sum += (i + 1) * extents[e].words[i];
        }
        return sum;
    }

    private void heal(Extent x) {
        x.mask = 0;
        x.column = -5;
        healed++;
    }
}
