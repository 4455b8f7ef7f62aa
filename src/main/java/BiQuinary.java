public final class BiQuinary {
    private static final int CELLS = 4;
    private static final int BITS = 7;
    private static final int CODE_OF_ZERO = 0x21;
    private static final int CODE_OF_NINE = 0x50;
    private static final int NO_DIGIT = -1;

    private final byte[] cells = new byte[4];

    public BiQuinary() {
        for (int i = 0; i < CELLS; i++) {
            cells[i] = (byte) CODE_OF_ZERO;
        }
    }

    public int bump() {
        // The whole number is looked at before the first cell changes: a fault
        // above the end of the carry must stop the call as well.
        if (lowestInvalidCell() >= 0) {
            return 0;
        }
        int changed = 0;
        boolean carry = true;
        for (int i = 0; i < CELLS && carry; i++) {
            carry = cells[i] == CODE_OF_NINE;
            cells[i] = (byte) codeAfter(cells[i]);
            changed++;
        }
        return changed;
    }

    public int strike(int cell, int bit) {
        if (cell < 0 || cell >= CELLS) {
            return -1;
        }
        if (bit < 0 || bit >= BITS) {
            return -2;
        }
        int code = cells[cell] ^ (1 << bit);
        cells[cell] = (byte) code;
        return code;
    }

    public int value() {
        if (lowestInvalidCell() >= 0) {
            return -1;
        }
        int number = 0;
        for (int i = CELLS - 1; i >= 0; i--) {
            number = number * 10 + digitOf(cells[i]);
        }
        return number;
    }

    public int faulty() {
        return lowestInvalidCell();
    }

    private int lowestInvalidCell() {
        for (int i = 0; i < CELLS; i++) {
            if (digitOf(cells[i]) == NO_DIGIT) {
                return i;
            }
        }
        return -1;
    }

    private static int digitOf(int code) {
        switch (code) {
            case 0x21: return 0;
            case 0x22: return 1;
            case 0x24: return 2;
            case 0x28: return 3;
            case 0x30: return 4;
            case 0x41: return 5;
            case 0x42: return 6;
            case 0x44: return 7;
            case 0x48: return 8;
            case 0x50: return 9;
            default: return NO_DIGIT;
        }
    }

    private static int codeAfter(int code) {
        switch (code) {
            case 0x21: return 0x22;
            case 0x22: return 0x24;
            case 0x24: return 0x28;
            case 0x28: return 0x30;
            case 0x30: return 0x41;
            case 0x41: return 0x42;
            case 0x42: return 0x44;
            case 0x44: return 0x48;
            case 0x48: return 0x50;
            // Only a nine is left here: bump lets no invalid code through.
            default: return CODE_OF_ZERO;
        }
    }
}
