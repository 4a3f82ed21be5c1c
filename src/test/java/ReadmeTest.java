/** The example in README.md: the same calls with the same answers. */
public final class ReadmeTest {
    public static void main(String[] args) {
        SelfHealStripes x = new SelfHealStripes();
        Check.due("draft(11)", x.draft(11), 1);
        Check.due("draft(22)", x.draft(22), 2);
        Check.due("put(0)", x.put(0), 2);
        Check.due("damage(0, 1, 255)", x.damage(0, 1, 255), 1);
        Check.due("lose(0)", x.lose(0), -4);
        Check.due("digest(0)", x.digest(0), 55);
        Check.due("damaged(0)", x.damaged(0), 1);
        Check.due("read(0, 1)", x.read(0, 1), 22);
        Check.due("damaged(0)", x.damaged(0), -5);
        Check.due("healed()", x.healed(), 1);
        Check.due("lose(0)", x.lose(0), 0);
        Check.due("copy(0, 7)", x.copy(0, 7), 2);
        Check.due("delete(0)", x.delete(0), 2);
        Check.due("size(0)", x.size(0), 0);
        Check.due("read(7, 1)", x.read(7, 1), 22);
        Check.due("put(8)", x.put(8), -1);
        Check.finish();
    }
}
