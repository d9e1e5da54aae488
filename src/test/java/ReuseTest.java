/** Promises 2 to 4 over the whole life of an object: each call's RESULT is in place of what was before. */
public final class ReuseTest {
    private static final int CALLS = 512;

    public static void main(String[] args) {
        Checks checks = new Checks();
        long bits = 7;
        for (int run = 0; run < 20; run++) {
            ShortestPrinter printer = new ShortestPrinter();
            // A step is one call that prints and at most three of word.
            for (int calls = 0; calls + 4 <= CALLS; calls += 4) {
                bits = bits * 6364136223846793005L + 1442695040888963407L;
                step(checks, printer, bits);
            }
        }
        checks.end();
    }

    private static void step(Checks checks, ShortestPrinter printer, long bits) {
        switch ((int) (bits >>> 60) & 3) {
            case 0:
                checks.printed(printer, bits, Oracle.printed(bits));
                break;
            case 1:
                checks.printedFloat(printer, (int) (bits >>> 20), Oracle.printedFloat((int) (bits >>> 20)));
                break;
            case 2:
                checks.printed(printer, bits >>> 55, Oracle.printed(bits >>> 55));
                break;
            default:
                long small = Double.doubleToRawLongBits((bits >>> 50) / 8.0);
                checks.printed(printer, small, Oracle.printed(small));
                break;
        }
    }
}
