/** ROUNDS: "of two to the one whose c is even". Each decimal told here lies halfway between two numbers. */
public final class HalfwayTest {
    private static final Checks CHECKS = new Checks();

    public static void main(String[] args) {
        evenTakesTheHalfwayAbove();
        oddLeavesTheHalfwayBelow();
        evenTakesTheHalfwayBelow();
        oddLeavesTheHalfwayAbove();
        CHECKS.end();
    }

    /** 18014398509482010 and 33554450; 1.0E23 and 9.0E9 are halfway, too. */
    private static void evenTakesTheHalfwayAbove() {
        CHECKS.doubleIs(0x1.0000000000006p54, "1.801439850948201E16");
        CHECKS.doubleIs(0x1.52d02c7e14af6p75, "5.0E22");
        CHECKS.doubleIs(0x1.52d02c7e14af6p76, "1.0E23");
        CHECKS.floatIs(0x1.000008p25f, "3.355445E7");
        CHECKS.floatIs(0x1.8p25f, "5.033165E7");
        CHECKS.floatIs(0x1.0c388cp33f, "9.0E9");
    }

    private static void oddLeavesTheHalfwayBelow() {
        CHECKS.doubleIs(0x1.0000000000007p54, "1.8014398509482012E16");
        CHECKS.doubleIs(0x1.52d02c7e14af7p75, "5.0000000000000004E22");
        CHECKS.doubleIs(0x1.52d02c7e14af7p76, "1.0000000000000001E23");
        CHECKS.floatIs(0x1.00000ap25f, "3.3554452E7");
        CHECKS.floatIs(0x1.800002p25f, "5.0331652E7");
        CHECKS.floatIs(0x1.0c388ep33f, "9.000001E9");
    }

    /** 18014398509481990 and 33554470; 7.0E22 and 3.0E10 are halfway, too. */
    private static void evenTakesTheHalfwayBelow() {
        CHECKS.doubleIs(0x1.0000000000002p54, "1.801439850948199E16");
        CHECKS.doubleIs(0x1.da56a4b0835cp75, "7.0E22");
        CHECKS.floatIs(0x1.000014p25f, "3.355447E7");
        CHECKS.floatIs(0x1.bf08ecp34f, "3.0E10");
    }

    private static void oddLeavesTheHalfwayAbove() {
        CHECKS.doubleIs(0x1.0000000000001p54, "1.8014398509481988E16");
        CHECKS.doubleIs(0x1.da56a4b0835bfp75, "6.9999999999999996E22");
        CHECKS.floatIs(0x1.000012p25f, "3.3554468E7");
        CHECKS.floatIs(0x1.bf08eap34f, "2.9999999E10");
    }
}
