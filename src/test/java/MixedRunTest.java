/** All promises together: long mixed runs of calls, held against a plain model of the document. */
public final class MixedRunTest {
    private static final int[] WEIGHTS = {1, 10, 100, 1000};
    private static int state = 12345;

    public static void main(String[] args) {
        for (int run = 0; run < 2000; run++) {
            oneRun(run);
        }
        Check.end();
    }

    private static void oneRun(int run) {
        int[] model = Check.codesOf(next(10000));
        BiQuinary x = Check.holding(model);
        for (int call = 0; call < 100; call++) {
            String where = "run " + run + ", call " + call + ": ";
            int kind = next(8);
            if (kind < 3) {
                Check.due(where + "bump()", x.bump(), bump(model));
            } else if (kind < 6) {
                int cell = next(6) - 1;
                int bit = next(9) - 1;
                Check.due(where + "strike(" + cell + ", " + bit + ")", x.strike(cell, bit), strike(model, cell, bit));
            } else if (kind == 6) {
                mendLowest(x, model);
            }
            Check.due(where + "value()", x.value(), value(model));
            Check.due(where + "faulty()", x.faulty(), faulty(model));
        }
    }

    /** Without mending, nearly every cell would be invalid after a few strikes. */
    private static void mendLowest(BiQuinary x, int[] model) {
        int cell = faulty(model);
        if (cell >= 0) {
            model[cell] = Check.CODES[next(2) == 0 ? 9 : next(10)];
            Check.set(x, cell, model[cell]);
        }
    }

    private static int bump(int[] model) {
        int before = value(model);
        if (before < 0) {
            return 0;
        }
        int[] after = Check.codesOf((before + 1) % 10000);
        int changed = 0;
        for (int cell = 0; cell < 4; cell++) {
            changed += model[cell] != after[cell] ? 1 : 0;
            model[cell] = after[cell];
        }
        return changed;
    }

    private static int strike(int[] model, int cell, int bit) {
        if (cell < 0 || cell > 3) {
            return -1;
        }
        if (bit < 0 || bit > 6) {
            return -2;
        }
        model[cell] ^= 1 << bit;
        return model[cell];
    }

    private static int value(int[] model) {
        if (faulty(model) >= 0) {
            return -1;
        }
        int sum = 0;
        for (int cell = 0; cell < 4; cell++) {
            sum += WEIGHTS[cell] * Check.digit(model[cell]);
        }
        return sum;
    }

    private static int faulty(int[] model) {
        for (int cell = 0; cell < 4; cell++) {
            if (Check.digit(model[cell]) < 0) {
                return cell;
            }
        }
        return -1;
    }

    /** A fixed sequence rather than a random source, so that a failure comes again. */
    private static int next(int bound) {
        state = state * 1103515245 + 12345;
        return (state >>> 8) % bound;
    }
}
