/** Promise 1, broadly: every first strike, and objects that share nothing. */
public final class StartTest {
    public static void main(String[] args) {
        Check.due("value() at the start", new BiQuinary().value(), 0);
        Check.due("faulty() at the start", new BiQuinary().faulty(), -1);
        Check.due("bump() at the start", new BiQuinary().bump(), 1);
        everyCellHoldsZero();
        objectsShareNothing();
        Check.end();
    }

    private static void everyCellHoldsZero() {
        for (int cell = 0; cell < 4; cell++) {
            for (int bit = 0; bit < 7; bit++) {
                Check.due("first strike(" + cell + ", " + bit + ")", new BiQuinary().strike(cell, bit), 0x21 ^ 1 << bit);
            }
        }
    }

    private static void objectsShareNothing() {
        BiQuinary one = new BiQuinary();
        BiQuinary other = new BiQuinary();
        one.bump();
        one.strike(3, 6);
        Check.due("value() of an untouched object", other.value(), 0);
        Check.due("faulty() of an untouched object", other.faulty(), -1);
        BiQuinary later = new BiQuinary();
        Check.dueCells("an object made later", later, 0x21, 0x21, 0x21, 0x21);
    }
}
