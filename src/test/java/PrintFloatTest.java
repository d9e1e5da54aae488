/** Promise 3: printFloat, over ordinary floats and all ranges of them. Each sentence with an edge has a test of its own. */
public final class PrintFloatTest {
    private static final Checks CHECKS = new Checks();

    public static void main(String[] args) {
        ordinary();
        everyExponent();
        besidePowersOfTen();
        leastNumbers();
        scattered();
        CHECKS.end();
    }

    private static void ordinary() {
        CHECKS.floatIs(0.0f, "0.0");
        CHECKS.floatIs(-0.0f, "-0.0");
        CHECKS.floatIs(1.0f, "1.0");
        CHECKS.floatIs(-1.0f, "-1.0");
        CHECKS.floatIs(0.1f, "0.1");
        CHECKS.floatIs(1.0f / 3, "0.33333334");
        CHECKS.floatIs(16777216.0f, "1.6777216E7");
        CHECKS.floatIs(3.1415927f, "3.1415927");
        CHECKS.floatIs(-123.25f, "-123.25");
        CHECKS.floatIs(1.0E10f, "1.0E10");
        CHECKS.floatIs(1.5E-20f, "1.5E-20");
        CHECKS.floatIs(2.0E-3f, "0.002");
    }

    private static void everyExponent() {
        int ones = (1 << 23) - 1;
        int[] fractions = {0, 1, 2, 3, ones, ones - 1, 1 << 22, (1 << 22) - 1, (1 << 22) + 1, 0x2AAAAA, 0x555555};
        for (int exponent = 0; exponent <= 255; exponent++) {
            for (int fraction : fractions) {
                asTheOracleSays(exponent << 23 | fraction);
                asTheOracleSays(1 << 31 | exponent << 23 | fraction);
            }
        }
    }

    private static void besidePowersOfTen() {
        for (int power = -45; power <= 38; power++) {
            for (int digit = 1; digit <= 9; digit++) {
                int bits = Float.floatToRawIntBits(Float.parseFloat(digit + "E" + power));
                asTheOracleSays(bits);
                asTheOracleSays(Math.max(bits - 1, 0));
                asTheOracleSays(bits + 1);
            }
        }
    }

    private static void leastNumbers() {
        for (int bits = 0; bits < 5000; bits++) {
            asTheOracleSays(bits);
        }
    }

    private static void scattered() {
        long bits = 1;
        for (int i = 0; i < 50000; i++) {
            bits = bits * 6364136223846793005L + 1442695040888963407L;
            asTheOracleSays((int) (bits >>> 32));
            asTheOracleSays(Float.floatToRawIntBits(0x1p21f + (bits >>> 41) / 4.0f));
        }
    }

    private static void asTheOracleSays(int bits) {
        CHECKS.printedFloat(bits, Oracle.printedFloat(bits));
    }
}
