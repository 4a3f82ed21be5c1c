import java.util.ArrayList;
import java.util.List;
import java.util.function.Consumer;

/**
 * Every call made once from many shapes of two extents: each pair of extents, each of the two
 * absent, present with every size and every damaged column, or, with four words, sound again or
 * deleted. The answer and all that can be seen afterwards must be the model's.
 */
public final class EveryStepTest {
    private static final int NONE = -1;
    private static final int[] MASKS = {0x80000005, 1, 0x7ffffffe, -1, 6, 0x40000000, 0x55555555, 3};

    /** What was done to an extent after its column was damaged; something may stay behind. */
    private enum Then { LEFT, UNDONE, DELETED }

    /** How an extent came to be what it is; a size of 0 is one that was never present. */
    private record Shape(int size, int damagedColumn, Then then) {
    }

    /** A call on the first extent, and how many words are in the draft before it. */
    private record Step(String name, int drafted, Consumer<Both> call) {
    }

    private static final List<Shape> SHAPES = shapes();

    private final int first;
    private final int second;
    private final List<Step> steps = new ArrayList<>();

    private EveryStepTest(int first, int second) {
        this.first = first;
        this.second = second;
        draftSteps();
        extentSteps();
        columnSteps();
        copySteps();
    }

    public static void main(String[] args) {
        for (int first = 0; first < 8; first++) {
            for (int second = 0; second < 8; second++) {
                if (first != second) {
                    new EveryStepTest(first, second).go();
                }
            }
        }
        Check.finish();
    }

    private static List<Shape> shapes() {
        List<Shape> all = new ArrayList<>();
        all.add(new Shape(0, NONE, Then.LEFT));
        for (int size = 1; size <= 4; size++) {
            for (int column = NONE; column <= size; column++) {
                all.add(new Shape(size, column, Then.LEFT));
            }
        }
        for (int column = 0; column <= 4; column++) {
            all.add(new Shape(4, column, Then.UNDONE));
            all.add(new Shape(4, column, Then.DELETED));
        }
        return all;
    }

    private void draftSteps() {
        for (int drafted = 0; drafted <= 4; drafted++) {
            step("draft", drafted, x -> x.draft(-99));
            step("scrap", drafted, Both::scrap);
            step("put", drafted, x -> x.put(first));
            step("put at 8", drafted, x -> x.put(8));
            step("put at -1", drafted, x -> x.put(-1));
        }
    }

    private void extentSteps() {
        step("delete", x -> x.delete(first));
        step("a look", x -> x.lookAt(first));
        step("scrub", Both::scrub);
        step("healed", Both::healed);
        for (int i = -1; i <= 4; i++) {
            int word = i;
            step("read of word " + word, x -> x.read(first, word));
        }
        for (int d = -1; d <= 5; d++) {
            int disk = d;
            step("lose of disk " + disk, x -> x.lose(disk));
        }
    }

    private void columnSteps() {
        int[] masks = {0, MASKS[first], MASKS[second], MASKS[first] ^ MASKS[second]};
        for (int c = -1; c <= 5; c++) {
            int column = c;
            for (int mask : masks) {
                step("damage of column " + column + " by " + mask, x -> x.damage(first, column, mask));
            }
        }
    }

    private void copySteps() {
        step("copy", x -> x.copy(first, second));
        step("copy to itself", x -> x.copy(first, first));
        step("copy to 8", x -> x.copy(first, 8));
        step("copy from -1", x -> x.copy(-1, first));
    }

    private void step(String name, Consumer<Both> call) {
        step(name, 2, call);
    }

    private void step(String name, int drafted, Consumer<Both> call) {
        steps.add(new Step(name, drafted, call));
    }

    private void go() {
        for (Shape shape : SHAPES) {
            for (Shape other : SHAPES) {
                for (Step step : steps) {
                    if (Check.enough()) {
                        return;
                    }
                    run(shape, other, step);
                }
            }
        }
    }

    private void run(Shape shape, Shape other, Step step) {
        Both both = new Both(() -> "extent " + first + " as " + shape + ", extent " + second + " as " + other
                + ", " + step.drafted() + " drafted, then " + step.name());
        make(both, first, shape);
        make(both, second, other);
        for (int i = 0; i < step.drafted(); i++) {
            both.draft(1000 + i);
        }
        step.call().accept(both);
        look(both);
    }

    private static void make(Both both, int e, Shape shape) {
        if (shape.size() == 0) {
            return;
        }
        for (int i = 0; i < shape.size(); i++) {
            both.draft((e * 4 + i + 1) * 0x9e3779b9);
        }
        both.put(e);
        if (shape.damagedColumn() != NONE) {
            both.damage(e, shape.damagedColumn(), MASKS[e]);
        }
        if (shape.then() == Then.UNDONE) {
            both.damage(e, shape.damagedColumn(), MASKS[e]);
        }
        if (shape.then() == Then.DELETED) {
            both.delete(e);
        }
    }

    private void look(Both both) {
        both.lookAtFirst(8);
        lookAtMask(both, first);
        lookAtMask(both, second);
        both.readAll(first);
        both.readAll(second);
        both.healed();
        lookAtDraft(both);
    }

    // Only the right mask makes the damaged column sound, and then any column may be damaged.
    private static void lookAtMask(Both both, int e) {
        for (int c = 0; c <= 4; c++) {
            both.damage(e, c, MASKS[e]);
        }
        both.lookAt(e);
    }

    private void lookAtDraft(Both both) {
        both.draft(2000);
        both.put(first);
        both.readAll(first);
        both.put(second);
    }
}
