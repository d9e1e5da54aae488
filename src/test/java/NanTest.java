/** DOUBLES and FLOATS: "All NaN are one". */
public final class NanTest {
    private static final Checks CHECKS = new Checks();
    private static final long DOUBLE_ONES = 0x7FFL << 52;
    private static final int FLOAT_ONES = 0xFF << 23;

    public static void main(String[] args) {
        doubles();
        floats();
        besideNan();
        CHECKS.end();
    }

    private static void doubles() {
        for (int bit = 0; bit < 52; bit++) {
            nan(DOUBLE_ONES | 1L << bit);
            nan(DOUBLE_ONES | (1L << bit) - 1 | 1L << 51);
        }
        nan(Double.doubleToRawLongBits(Double.NaN));
        nan(Long.MAX_VALUE);
    }

    private static void floats() {
        for (int bit = 0; bit < 23; bit++) {
            nanFloat(FLOAT_ONES | 1 << bit);
            nanFloat(FLOAT_ONES | (1 << bit) - 1 | 1 << 22);
        }
        nanFloat(Float.floatToRawIntBits(Float.NaN));
        nanFloat(Integer.MAX_VALUE);
    }

    private static void besideNan() {
        CHECKS.printed(DOUBLE_ONES, "Infinity");
        CHECKS.printed(1L << 63 | DOUBLE_ONES, "-Infinity");
        CHECKS.printedFloat(FLOAT_ONES, "Infinity");
        CHECKS.printedFloat(1 << 31 | FLOAT_ONES, "-Infinity");
    }

    private static void nan(long bits) {
        CHECKS.printed(bits, "NaN");
        CHECKS.printed(1L << 63 | bits, "NaN");
    }

    private static void nanFloat(int bits) {
        CHECKS.printedFloat(bits, "NaN");
        CHECKS.printedFloat(1 << 31 | bits, "NaN");
    }
}
