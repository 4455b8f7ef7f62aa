/** Promise 3, broadly: every flip of every code, and many arguments out of range. */
public final class StrikeTest {
    // 32, 39, 256 and their like would pass for small values if a shift or a byte wrapped them.
    private static final int[] BAD_CELLS = {Integer.MIN_VALUE, -256, -4, -1, 4, 5, 7, 8, 32, 256, 1 << 30, Integer.MAX_VALUE};
    private static final int[] BAD_BITS = {Integer.MIN_VALUE, -256, -32, -26, -1, 7, 8, 31, 32, 33, 38, 39, 64, 256, Integer.MAX_VALUE};

    public static void main(String[] args) {
        everyFlipOfEveryCode();
        outOfRangeChangesNothing(Check.codesOf(9470));
        outOfRangeChangesNothing(new int[] {0x00, 0x7f, 0x61, 0x03});
        Check.end();
    }

    /** The others hold one valid and two invalid codes: a flip is due whatever they hold. */
    private static void everyFlipOfEveryCode() {
        for (int cell = 0; cell < 4; cell++) {
            for (int code = 0; code < 128; code++) {
                for (int bit = 0; bit < 7; bit++) {
                    flipTwice(cell, code, bit, new int[] {0x44, 0x00, 0x7f, 0x28});
                    flipTwice(cell, code, bit, new int[] {0x21, 0x50, 0x30, 0x41});
                }
            }
        }
    }

    private static void flipTwice(int cell, int code, int bit, int[] codes) {
        codes[cell] = code;
        BiQuinary x = Check.holding(codes);
        String call = "strike(" + cell + ", " + bit + ") at code " + code;
        int flipped = (code >> bit & 1) == 1 ? code - (1 << bit) : code + (1 << bit);
        Check.due(call, x.strike(cell, bit), flipped);
        codes[cell] = flipped;
        Check.dueCells("after " + call, x, codes);
        Check.due(call + ", again", x.strike(cell, bit), code);
        codes[cell] = code;
        Check.dueCells("after two of " + call, x, codes);
    }

    private static void outOfRangeChangesNothing(int[] codes) {
        BiQuinary x = Check.holding(codes);
        for (int cell : BAD_CELLS) {
            for (int bit = 0; bit < 7; bit++) {
                dueRefused(x, codes, cell, bit, -1);
            }
            for (int bit : BAD_BITS) {
                dueRefused(x, codes, cell, bit, -1);
            }
        }
        for (int cell = 0; cell < 4; cell++) {
            for (int bit : BAD_BITS) {
                dueRefused(x, codes, cell, bit, -2);
            }
        }
    }

    private static void dueRefused(BiQuinary x, int[] codes, int cell, int bit, int answer) {
        String call = "strike(" + cell + ", " + bit + ")";
        Check.due(call, x.strike(cell, bit), answer);
        Check.dueCells("after " + call, x, codes);
    }
}
