/** Promise 2: print. */
public final class PrintTest {
    private static final Checks CHECKS = new Checks();

    public static void main(String[] args) {
        notFinite();
        ordinary();
        edgesOfThePlainForm();
        edgesOfTheKind();
        fewDigits();
        ties();
        everyExponent();
        besidePowersOfTen();
        leastNumbers();
        scattered();
        CHECKS.end();
    }

    private static void notFinite() {
        CHECKS.printed(0x7FF0000000000000L, "Infinity");
        CHECKS.printed(0xFFF0000000000000L, "-Infinity");
        CHECKS.printed(0x7FF8000000000000L, "NaN");
        CHECKS.printed(0xFFF8000000000000L, "NaN");
        CHECKS.printed(0x7FF0000000000001L, "NaN");
        CHECKS.printed(0xFFF0000000000001L, "NaN");
        CHECKS.printed(-1L, "NaN");
        CHECKS.printed(Long.MAX_VALUE, "NaN");
    }

    private static void ordinary() {
        printed(0.0, "0.0");
        printed(-0.0, "-0.0");
        printed(1.0, "1.0");
        printed(-1.0, "-1.0");
        printed(10.0, "10.0");
        printed(0.1, "0.1");
        printed(0.3, "0.3");
        printed(0.1 + 0.2, "0.30000000000000004");
        printed(1.0 / 3, "0.3333333333333333");
        printed(2.0 / 3, "0.6666666666666666");
        printed(100.0, "100.0");
        printed(-123456.789, "-123456.789");
        printed(Math.PI, "3.141592653589793");
        printed(1.0E22, "1.0E22");
        printed(1.5E300, "1.5E300");
        printed(-1.2345678901234568E-300, "-1.2345678901234568E-300");
    }

    private static void edgesOfThePlainForm() {
        printed(0.001, "0.001");
        printed(Math.nextDown(0.001), "9.999999999999998E-4");
        printed(0.0012345, "0.0012345");
        printed(0.01, "0.01");
        printed(9999999.0, "9999999.0");
        printed(Math.nextDown(1.0E7), "9999999.999999998");
        printed(1.0E7, "1.0E7");
        printed(1.2345678E7, "1.2345678E7");
        printed(1234567.0, "1234567.0");
        printed(1000000.0, "1000000.0");
        printed(-9.5E-4, "-9.5E-4");
    }

    private static void edgesOfTheKind() {
        printed(Double.MIN_VALUE, "4.9E-324");
        printed(-Double.MIN_VALUE, "-4.9E-324");
        printed(Double.MAX_VALUE, "1.7976931348623157E308");
        printed(Math.nextDown(Double.MAX_VALUE), "1.7976931348623155E308");
        printed(Double.MIN_NORMAL, "2.2250738585072014E-308");
        printed(-Double.MIN_NORMAL, "-2.2250738585072014E-308");
        printed(Math.nextDown(Double.MIN_NORMAL), "2.225073858507201E-308");
        printed(0x1p-1021, "4.450147717014403E-308");
        printed(0x1p1023, "8.98846567431158E307");
    }

    /** Where one digit would read back, two are used. */
    private static void fewDigits() {
        printed(2 * Double.MIN_VALUE, "9.9E-324");
        printed(3 * Double.MIN_VALUE, "1.5E-323");
        printed(4 * Double.MIN_VALUE, "2.0E-323");
        printed(2.0E-323, "2.0E-323");
        printed(1.0E23, "1.0E23");
        printed(2.0E-3, "0.002");
        printed(2.0E23, "2.0E23");
        printed(9.0E15, "9.0E15");
    }

    /** Of two that are equally near the even one; read back from halfway only where c is even. */
    private static void ties() {
        printed(0x1p50 + 0.25, "1.1258999068426242E15");
        printed(0x1p50 + 0.75, "1.1258999068426248E15");
        printed(0x1p51 + 0.5, "2.2517998136852485E15");
        printed(9.007199254740992E15, "9.007199254740992E15");
        printed(9.007199254740994E15, "9.007199254740994E15");
        printed(2.0E22, "2.0E22");
        printed(5.0E-324, "4.9E-324");
        printed(9.5367431640625E-7, "9.5367431640625E-7");
    }

    private static void everyExponent() {
        long ones = (1L << 52) - 1;
        long[] fractions = {0, 1, 2, 3, ones, ones - 1, 1L << 51, (1L << 51) - 1, (1L << 51) + 1, 0x5555555555555L};
        for (long exponent = 0; exponent <= 2047; exponent++) {
            for (long fraction : fractions) {
                asTheOracleSays(exponent << 52 | fraction);
            }
            asTheOracleSays(1L << 63 | exponent << 52 | ones / 3 * 2);
        }
    }

    private static void besidePowersOfTen() {
        for (int power = -324; power <= 308; power++) {
            for (int digit = 1; digit <= 9; digit++) {
                long bits = Double.doubleToRawLongBits(Double.parseDouble(digit + "E" + power));
                asTheOracleSays(bits);
                if (digit == 1 && bits > 0) {
                    asTheOracleSays(bits - 1);
                    asTheOracleSays(bits + 1);
                }
            }
        }
    }

    private static void leastNumbers() {
        for (long bits = 0; bits < 2000; bits++) {
            asTheOracleSays(bits);
        }
    }

    private static void scattered() {
        long bits = 1;
        for (int i = 0; i < 20000; i++) {
            bits = bits * 6364136223846793005L + 1442695040888963407L;
            asTheOracleSays(bits ^ bits >>> 29);
            asTheOracleSays(Double.doubleToRawLongBits((bits >> 40) / 1000.0));
            asTheOracleSays(Double.doubleToRawLongBits(0x1p50 + (bits >>> 16) / 4.0));
        }
    }

    private static void printed(double x, String want) {
        CHECKS.printed(Double.doubleToRawLongBits(x), want);
    }

    private static void asTheOracleSays(long bits) {
        CHECKS.printed(bits, Oracle.printed(bits));
    }
}
