/** Promise 2: print, over ordinary doubles and all ranges of them. Each sentence with an edge has a test of its own. */
public final class PrintTest {
    private static final Checks CHECKS = new Checks();

    public static void main(String[] args) {
        ordinary();
        everyExponent();
        besidePowersOfTen();
        leastNumbers();
        scattered();
        CHECKS.end();
    }

    private static void ordinary() {
        CHECKS.doubleIs(0.0, "0.0");
        CHECKS.doubleIs(-0.0, "-0.0");
        CHECKS.doubleIs(1.0, "1.0");
        CHECKS.doubleIs(-1.0, "-1.0");
        CHECKS.doubleIs(10.0, "10.0");
        CHECKS.doubleIs(0.1, "0.1");
        CHECKS.doubleIs(0.3, "0.3");
        CHECKS.doubleIs(0.1 + 0.2, "0.30000000000000004");
        CHECKS.doubleIs(1.0 / 3, "0.3333333333333333");
        CHECKS.doubleIs(2.0 / 3, "0.6666666666666666");
        CHECKS.doubleIs(100.0, "100.0");
        CHECKS.doubleIs(-123456.789, "-123456.789");
        CHECKS.doubleIs(Math.PI, "3.141592653589793");
        CHECKS.doubleIs(1.0E22, "1.0E22");
        CHECKS.doubleIs(1.5E300, "1.5E300");
        CHECKS.doubleIs(-1.2345678901234568E-300, "-1.2345678901234568E-300");
    }

    private static void everyExponent() {
        long ones = (1L << 52) - 1;
        long[] fractions = {0, 1, 2, 3, ones, ones - 1, 1L << 51, (1L << 51) - 1, (1L << 51) + 1, 0x5555555555555L};
        for (long exponent = 0; exponent <= 2047; exponent++) {
            for (long fraction : fractions) {
                asTheOracleSays(exponent << 52 | fraction);
            }
            asTheOracleSays(1L << 63 | exponent << 52 | ones / 3 * 2);
        }
    }

    private static void besidePowersOfTen() {
        for (int power = -324; power <= 308; power++) {
            for (int digit = 1; digit <= 9; digit++) {
                long bits = Double.doubleToRawLongBits(Double.parseDouble(digit + "E" + power));
                asTheOracleSays(bits);
                if (digit == 1 && bits > 0) {
                    asTheOracleSays(bits - 1);
                    asTheOracleSays(bits + 1);
                }
            }
        }
    }

    private static void leastNumbers() {
        for (long bits = 0; bits < 2000; bits++) {
            asTheOracleSays(bits);
        }
    }

    private static void scattered() {
        long bits = 1;
        for (int i = 0; i < 20000; i++) {
            bits = bits * 6364136223846793005L + 1442695040888963407L;
            asTheOracleSays(bits ^ bits >>> 29);
            asTheOracleSays(Double.doubleToRawLongBits((bits >> 40) / 1000.0));
            asTheOracleSays(Double.doubleToRawLongBits(0x1p50 + (bits >>> 16) / 4.0));
        }
    }

    private static void asTheOracleSays(long bits) {
        CHECKS.printed(bits, Oracle.printed(bits));
    }
}
