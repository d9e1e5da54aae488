/** ROUNDS: "2^(P-1) (2 - 2^-P) 2^m or more to infinity": what R of the greatest numbers ends at. */
public final class InfinityTest {
    private static final Checks CHECKS = new Checks();

    public static void main(String[] args) {
        doubles();
        floats();
        CHECKS.end();
    }

    /** The greatest one's R ends at 1.79769313486231580..E308: one digit less would be infinity. */
    private static void doubles() {
        CHECKS.printed(0x7FEFFFFFFFFFFFFEL, "1.7976931348623155E308");
        CHECKS.printed(0x7FEFFFFFFFFFFFFFL, "1.7976931348623157E308");
        CHECKS.printed(0xFFEFFFFFFFFFFFFFL, "-1.7976931348623157E308");
        CHECKS.printed(0x7FF0000000000000L, "Infinity");
        CHECKS.printed(0xFFF0000000000000L, "-Infinity");
    }

    /** The greatest one's R ends at 3.40282356..E38. */
    private static void floats() {
        CHECKS.printedFloat(0x7F7FFFFE, "3.4028233E38");
        CHECKS.printedFloat(0x7F7FFFFF, "3.4028235E38");
        CHECKS.printedFloat(0xFF7FFFFF, "-3.4028235E38");
        CHECKS.printedFloat(0x7F800000, "Infinity");
        CHECKS.printedFloat(0xFF800000, "-Infinity");
    }
}
