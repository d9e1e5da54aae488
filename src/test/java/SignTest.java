/** PRINTED: "a - if the sign is set (of 0, too), and behind it: Infinity; 0.0; .." */
public final class SignTest {
    private static final Checks CHECKS = new Checks();
    private static final long[] DOUBLES = {
        0x0000000000000000L, 0x0000000000000001L, 0x000FFFFFFFFFFFFFL, 0x0010000000000000L, 0x3F50624DD2F1A9FCL,
        0x3FF0000000000000L, 0x416312CFE0000000L, 0x416312D000000000L, 0x7FEFFFFFFFFFFFFFL, 0x7FF0000000000000L};
    private static final String[] DOUBLE_TEXTS = {
        "0.0", "4.9E-324", "2.225073858507201E-308", "2.2250738585072014E-308", "0.001",
        "1.0", "9999999.0", "1.0E7", "1.7976931348623157E308", "Infinity"};
    private static final int[] FLOATS = {
        0x00000000, 0x00000001, 0x007FFFFF, 0x00800000, 0x3A83126F,
        0x3F800000, 0x4B18967F, 0x4B189680, 0x7F7FFFFF, 0x7F800000};
    private static final String[] FLOAT_TEXTS = {
        "0.0", "1.4E-45", "1.1754942E-38", "1.1754944E-38", "0.001",
        "1.0", "9999999.0", "1.0E7", "3.4028235E38", "Infinity"};

    public static void main(String[] args) {
        for (int i = 0; i < DOUBLES.length; i++) {
            CHECKS.printed(DOUBLES[i], DOUBLE_TEXTS[i]);
            CHECKS.printed(DOUBLES[i] | 1L << 63, "-" + DOUBLE_TEXTS[i]);
        }
        for (int i = 0; i < FLOATS.length; i++) {
            CHECKS.printedFloat(FLOATS[i], FLOAT_TEXTS[i]);
            CHECKS.printedFloat(FLOATS[i] | 1 << 31, "-" + FLOAT_TEXTS[i]);
        }
        nanHasNone();
        CHECKS.end();
    }

    private static void nanHasNone() {
        CHECKS.printed(0xFFF8000000000000L, "NaN");
        CHECKS.printed(-1L, "NaN");
        CHECKS.printedFloat(0xFFC00000, "NaN");
        CHECKS.printedFloat(-1, "NaN");
    }
}
