/** Promise 3: printFloat. */
public final class PrintFloatTest {
    private static final Checks CHECKS = new Checks();

    public static void main(String[] args) {
        notFinite();
        ordinary();
        edges();
        ties();
        everyExponent();
        besidePowersOfTen();
        leastNumbers();
        scattered();
        CHECKS.end();
    }

    private static void notFinite() {
        CHECKS.printedFloat(0x7F800000, "Infinity");
        CHECKS.printedFloat(0xFF800000, "-Infinity");
        CHECKS.printedFloat(0x7FC00000, "NaN");
        CHECKS.printedFloat(0xFFC00000, "NaN");
        CHECKS.printedFloat(0x7F800001, "NaN");
        CHECKS.printedFloat(0xFF800001, "NaN");
        CHECKS.printedFloat(-1, "NaN");
        CHECKS.printedFloat(Integer.MAX_VALUE, "NaN");
    }

    private static void ordinary() {
        printed(0.0f, "0.0");
        printed(-0.0f, "-0.0");
        printed(1.0f, "1.0");
        printed(-1.0f, "-1.0");
        printed(0.1f, "0.1");
        printed(1.0f / 3, "0.33333334");
        printed(16777216.0f, "1.6777216E7");
        printed(3.1415927f, "3.1415927");
        printed(-123.25f, "-123.25");
        printed(1.0E10f, "1.0E10");
        printed(1.5E-20f, "1.5E-20");
        printed(2.0E-3f, "0.002");
    }

    private static void edges() {
        printed(0.001f, "0.001");
        printed(Math.nextDown(0.001f), "9.999999E-4");
        printed(9999999.0f, "9999999.0");
        printed(1.0E7f, "1.0E7");
        printed(Float.MIN_VALUE, "1.4E-45");
        printed(-Float.MIN_VALUE, "-1.4E-45");
        printed(2 * Float.MIN_VALUE, "2.8E-45");
        printed(Float.MAX_VALUE, "3.4028235E38");
        printed(-Float.MAX_VALUE, "-3.4028235E38");
        printed(Float.MIN_NORMAL, "1.1754944E-38");
        printed(Math.nextDown(Float.MIN_NORMAL), "1.1754942E-38");
        printed(0x1p127f, "1.7014118E38");
    }

    private static void ties() {
        printed(0x1p21f + 0.25f, "2097152.2");
        printed(0x1p21f + 0.75f, "2097152.8");
        printed(0x1.000002p33f, "8.589936E9");
        printed(0x1p33f, "8.589935E9");
        printed(3.3554448E7f, "3.355445E7");
    }

    private static void everyExponent() {
        int ones = (1 << 23) - 1;
        int[] fractions = {0, 1, 2, 3, ones, ones - 1, 1 << 22, (1 << 22) - 1, (1 << 22) + 1, 0x2AAAAA, 0x555555};
        for (int exponent = 0; exponent <= 255; exponent++) {
            for (int fraction : fractions) {
                asTheOracleSays(exponent << 23 | fraction);
                asTheOracleSays(1 << 31 | exponent << 23 | fraction);
            }
        }
    }

    private static void besidePowersOfTen() {
        for (int power = -45; power <= 38; power++) {
            for (int digit = 1; digit <= 9; digit++) {
                int bits = Float.floatToRawIntBits(Float.parseFloat(digit + "E" + power));
                asTheOracleSays(bits);
                asTheOracleSays(Math.max(bits - 1, 0));
                asTheOracleSays(bits + 1);
            }
        }
    }

    private static void leastNumbers() {
        for (int bits = 0; bits < 5000; bits++) {
            asTheOracleSays(bits);
        }
    }

    private static void scattered() {
        long bits = 1;
        for (int i = 0; i < 50000; i++) {
            bits = bits * 6364136223846793005L + 1442695040888963407L;
            asTheOracleSays((int) (bits >>> 32));
            asTheOracleSays(Float.floatToRawIntBits(0x1p21f + (bits >>> 41) / 4.0f));
        }
    }

    private static void printed(float x, String want) {
        CHECKS.printedFloat(Float.floatToRawIntBits(x), want);
    }

    private static void asTheOracleSays(int bits) {
        CHECKS.printedFloat(bits, Oracle.printedFloat(bits));
    }
}
