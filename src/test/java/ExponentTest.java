/** PRINTED: "else d1 . d2 .. (0 if there is only one) E and p - 1". */
public final class ExponentTest {
    private static final Checks CHECKS = new Checks();
    private static final String[] ONE_DIGIT = {"1.0E", "2.0E", "9.0E"};
    private static final String[] MORE_DIGITS = {"1.2E", "9.8E", "1.02E", "1.23456E"};

    public static void main(String[] args) {
        int[] exponents = {7, 8, 9, 10, 11, 19, 20, 37, -4, -5, -9, -10, -11, -19, -20, -35};
        for (int exponent : exponents) {
            both(ONE_DIGIT, exponent);
            both(MORE_DIGITS, exponent);
        }
        int[] exponentsOfDoubles = {38, 39, 99, 100, 101, 109, 110, 199, 200, 299, 300, 307, -45, -99, -100, -101, -109, -110, -200, -300, -306};
        for (int exponent : exponentsOfDoubles) {
            doubles(ONE_DIGIT, exponent);
            doubles(MORE_DIGITS, exponent);
        }
        ends();
        CHECKS.end();
    }

    private static void ends() {
        CHECKS.printed(1L, "4.9E-324");
        CHECKS.printed(4L, "2.0E-323");
        CHECKS.doubleIs(1.0E308, "1.0E308");
        CHECKS.doubleIs(Double.MAX_VALUE, "1.7976931348623157E308");
        CHECKS.printedFloat(1, "1.4E-45");
        CHECKS.printedFloat(5, "7.0E-45");
        CHECKS.floatIs(1.0E38f, "1.0E38");
        CHECKS.floatIs(Float.MAX_VALUE, "3.4028235E38");
    }

    private static void both(String[] digits, int exponent) {
        doubles(digits, exponent);
        for (String some : digits) {
            String text = some + exponent;
            CHECKS.floatIs(Float.parseFloat(text), text);
            CHECKS.floatIs(-Float.parseFloat(text), "-" + text);
        }
    }

    private static void doubles(String[] digits, int exponent) {
        for (String some : digits) {
            String text = some + exponent;
            CHECKS.doubleIs(Double.parseDouble(text), text);
            CHECKS.doubleIs(-Double.parseDouble(text), "-" + text);
        }
    }
}
