/** SHORTEST: "n the least number of digits that one of R has, but 2 if that is 1". */
public final class LeastDigitsTest {
    private static final Checks CHECKS = new Checks();

    public static void main(String[] args) {
        twoWhereOneWouldDo();
        oneWhereTheSecondIsZero();
        noMoreThanTwo();
        everyCountFromTwo();
        CHECKS.end();
    }

    /** 5E-324, 1E-323 and 1E-45, 3E-45 and so on read back, but one with two digits is nearer. */
    private static void twoWhereOneWouldDo() {
        CHECKS.printed(1L, "4.9E-324");
        CHECKS.printed(2L, "9.9E-324");
        CHECKS.printed(10L, "4.9E-323");
        CHECKS.printed(12L, "5.9E-323");
        CHECKS.printed(20L, "9.9E-323");
        CHECKS.printedFloat(1, "1.4E-45");
        CHECKS.printedFloat(2, "2.8E-45");
        CHECKS.printedFloat(3, "4.2E-45");
        CHECKS.printedFloat(6, "8.4E-45");
        CHECKS.printedFloat(7, "9.8E-45");
        CHECKS.printedFloat(71, "9.9E-44");
    }

    private static void oneWhereTheSecondIsZero() {
        CHECKS.printed(4L, "2.0E-323");
        CHECKS.printed(6L, "3.0E-323");
        CHECKS.printedFloat(5, "7.0E-45");
        CHECKS.printedFloat(14, "2.0E-44");
        CHECKS.doubleIs(2.0E23, "2.0E23");
        CHECKS.doubleIs(9.0E15, "9.0E15");
        CHECKS.floatIs(9.0E15f, "9.0E15");
    }

    /** A third digit would be nearer to these. */
    private static void noMoreThanTwo() {
        CHECKS.printed(3L, "1.5E-323");
        CHECKS.printed(9L, "4.4E-323");
        CHECKS.printed(11L, "5.4E-323");
        CHECKS.printedFloat(4, "5.6E-45");
        CHECKS.printedFloat(8, "1.1E-44");
        CHECKS.printedFloat(19, "2.7E-44");
    }

    private static void everyCountFromTwo() {
        String digits = "1.234567891234567";
        for (int count = 2; count <= 16; count++) {
            String text = digits.substring(0, count + 1);
            CHECKS.doubleIs(Double.parseDouble(text), text);
        }
        for (int count = 2; count <= 8; count++) {
            String text = digits.substring(0, count + 1);
            CHECKS.floatIs(Float.parseFloat(text), text);
        }
        CHECKS.doubleIs(1.2345678901234567, "1.2345678901234567");
        CHECKS.floatIs(1.04860595E-36f, "1.04860595E-36");
        CHECKS.doubleIs(0.1 + 0.2, "0.30000000000000004");
        CHECKS.doubleIs(0.3, "0.3");
    }
}
