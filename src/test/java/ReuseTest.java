/** Promises 2 to 4 over the whole life of an object: each call's RESULT is in place of what was before. */
public final class ReuseTest {
    public static void main(String[] args) {
        Checks checks = new Checks();
        long bits = 7;
        for (int i = 0; i < 2500; i++) {
            bits = bits * 6364136223846793005L + 1442695040888963407L;
            step(checks, bits);
        }
        checks.end();
    }

    /** Long and short texts of both kinds by turns, so that what an earlier call left would show. */
    private static void step(Checks checks, long bits) {
        switch ((int) (bits >>> 60) & 3) {
            case 0:
                checks.printed(bits, Oracle.printed(bits));
                break;
            case 1:
                checks.printedFloat((int) (bits >>> 20), Oracle.printedFloat((int) (bits >>> 20)));
                break;
            case 2:
                checks.printed(bits >>> 55, Oracle.printed(bits >>> 55));
                break;
            default:
                long small = Double.doubleToRawLongBits((bits >>> 50) / 8.0);
                checks.printed(small, Oracle.printed(small));
                break;
        }
    }
}
