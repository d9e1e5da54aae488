/** PRINTED: "for p -2 .. 7: as a plain decimal, with at least one digit before and behind the point". */
public final class PlainTest {
    private static final Checks CHECKS = new Checks();
    private static final String[] BOTH_KINDS = {
        // p -2, -1 and 0: a zero before the point, and zeros behind it for p below 0.
        "0.001", "0.0012345", "0.009", "0.01", "0.012345", "0.09", "0.1", "0.12345", "0.9",
        // p 1 to 7: fewer digits than p, just p, one more, and many more.
        "1.0", "1.5", "1.2345", "9.0", "10.0", "12.0", "12.3", "99.0", "100.0", "123.0", "123.4", "1000.0", "1234.0",
        "1234.5", "10000.0", "12345.0", "12345.6", "100000.0", "123456.0", "123456.7", "1000000.0", "1200000.0",
        "1234567.0", "1234567.5", "9000000.0", "9999999.0",
        // p -3 and 8: no more plain decimals.
        "1.0E-4", "1.2345E-4", "9.0E-4", "9.9999E-4", "1.0E7", "1.2E7", "1.2345678E7", "9.0E7", "9.9E7"};

    public static void main(String[] args) {
        for (String text : BOTH_KINDS) {
            CHECKS.doubleIs(Double.parseDouble(text), text);
            CHECKS.doubleIs(-Double.parseDouble(text), "-" + text);
            CHECKS.floatIs(Float.parseFloat(text), text);
            CHECKS.floatIs(-Float.parseFloat(text), "-" + text);
        }
        besideTheEdges();
        CHECKS.end();
    }

    private static void besideTheEdges() {
        CHECKS.doubleIs(Math.nextDown(0.001), "9.999999999999998E-4");
        CHECKS.doubleIs(Math.nextUp(0.001), "0.0010000000000000002");
        CHECKS.doubleIs(Math.nextDown(1.0), "0.9999999999999999");
        CHECKS.doubleIs(Math.nextUp(1.0), "1.0000000000000002");
        CHECKS.doubleIs(Math.nextDown(1.0E7), "9999999.999999998");
        CHECKS.doubleIs(Math.nextUp(1.0E7), "1.0000000000000002E7");
        CHECKS.floatIs(Math.nextDown(0.001f), "9.999999E-4");
        CHECKS.floatIs(Math.nextUp(0.001f), "0.0010000002");
        CHECKS.floatIs(Math.nextDown(1.0f), "0.99999994");
        CHECKS.floatIs(Math.nextUp(1.0f), "1.0000001");
        CHECKS.floatIs(Math.nextDown(1.0E7f), "9999999.0");
        CHECKS.floatIs(Math.nextUp(1.0E7f), "1.0000001E7");
    }
}
