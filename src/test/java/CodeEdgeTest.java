/** "What it is", edge by edge: which codes are valid, and what every call keeps to. */
public final class CodeEdgeTest {
    private static final int[] EXTREMES = {Integer.MIN_VALUE, -1, 0, 3, 4, 6, 7, Integer.MAX_VALUE};

    public static void main(String[] args) {
        quinaryGroupEmpty();
        quinaryGroupWithMore();
        binaryPairEmpty();
        binaryPairWithBoth();
        bothGroupsWrong();
        exactlyTenValidCodes();
        alwaysSevenBits();
        noCallThrows();
        Check.end();
    }

    private static void quinaryGroupEmpty() {
        Check.sentence("invalid: either group has no bit set (quinary group)");
        dueInvalid(0x20);
        dueInvalid(0x40);
    }

    private static void quinaryGroupWithMore() {
        Check.sentence("invalid: either group has more than one bit set (quinary group)");
        for (int pair = 0x20; pair <= 0x40; pair += 0x20) {
            for (int quinary = 1; quinary < 32; quinary++) {
                if (Integer.bitCount(quinary) > 1) {
                    dueInvalid(pair | quinary);
                }
            }
        }
    }

    private static void binaryPairEmpty() {
        Check.sentence("invalid: either group has no bit set (binary pair)");
        for (int q = 0; q < 5; q++) {
            dueInvalid(1 << q);
        }
    }

    private static void binaryPairWithBoth() {
        Check.sentence("invalid: either group has more than one bit set (binary pair)");
        for (int q = 0; q < 5; q++) {
            dueInvalid(0x60 | 1 << q);
        }
    }

    /** 0x60 and 0x03 have two bits set in all, as every valid code has. */
    private static void bothGroupsWrong() {
        Check.sentence("every other code is invalid (both groups wrong)");
        dueInvalid(0x00);
        dueInvalid(0x60);
        dueInvalid(0x03);
        dueInvalid(0x18);
        dueInvalid(0x1f);
        dueInvalid(0x7f);
    }

    private static void exactlyTenValidCodes() {
        Check.sentence("there are exactly ten valid codes");
        for (int cell = 0; cell < 4; cell++) {
            int valid = 0;
            for (int code = 0; code < 128; code++) {
                int[] codes = Check.with(Check.codesOf(0), cell, code);
                valid += Check.holding(codes).faulty() == -1 ? 1 : 0;
            }
            Check.due("number of valid codes in cell " + cell, valid, 10);
        }
    }

    private static void alwaysSevenBits() {
        Check.sentence("each cell holds a seven-bit code, always in 0..127");
        BiQuinary x = new BiQuinary();
        for (int call = 0; call < 4000; call++) {
            int code = x.strike(call & 3, call % 7);
            Check.due("code in 0..127 after strike (1 is yes)", code >= 0 && code <= 127 ? 1 : 0, 1);
        }
    }

    /** A call that threw would end this test with an exit code of its own. */
    private static void noCallThrows() {
        Check.sentence("for any arguments and in every state: no call throws, and every call returns");
        int[][] states = {
            Check.codesOf(0), Check.codesOf(9999), {0, 0, 0, 0}, {0x7f, 0x7f, 0x7f, 0x7f}, {0x50, 0x50, 0x50, 0x7f},
        };
        for (int[] state : states) {
            for (int cell : EXTREMES) {
                for (int bit : EXTREMES) {
                    BiQuinary x = Check.holding(state);
                    int answer = x.strike(cell, bit);
                    Check.due("answer of strike in -2..127 (1 is yes)", answer >= -2 && answer <= 127 ? 1 : 0, 1);
                    int changed = x.bump();
                    Check.due("answer of bump in 0..4 (1 is yes)", changed >= 0 && changed <= 4 ? 1 : 0, 1);
                    int value = x.value();
                    Check.due("answer of value in -1..9999 (1 is yes)", value >= -1 && value <= 9999 ? 1 : 0, 1);
                    int faulty = x.faulty();
                    Check.due("answer of faulty in -1..3 (1 is yes)", faulty >= -1 && faulty <= 3 ? 1 : 0, 1);
                }
            }
        }
    }

    /** In each cell, and seen by all three methods that look at validity. */
    private static void dueInvalid(int code) {
        for (int cell = 0; cell < 4; cell++) {
            int[] codes = Check.with(Check.codesOf(4321), cell, code);
            BiQuinary x = Check.holding(codes);
            String where = " over " + Check.text(codes);
            Check.due("faulty()" + where, x.faulty(), cell);
            Check.due("value()" + where, x.value(), -1);
            Check.due("bump()" + where, x.bump(), 0);
        }
    }
}
