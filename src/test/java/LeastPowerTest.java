/** DOUBLES and FLOATS: "q at least E (c 2^(P-1) or more, but for q = E)". */
public final class LeastPowerTest {
    private static final Checks CHECKS = new Checks();

    public static void main(String[] args) {
        doublesOfTheLeastPower();
        floatsOfTheLeastPower();
        firstWithAGreaterPower();
        powersOfTwoOfTheLeastPower();
        powersOfTwoAboveIt();
        CHECKS.end();
    }

    private static void doublesOfTheLeastPower() {
        CHECKS.printed(0x0000000000000001L, "4.9E-324");
        CHECKS.printed(0x0000000000000002L, "9.9E-324");
        CHECKS.printed(0x0000000000000003L, "1.5E-323");
        CHECKS.printed(0x0008000000000000L, "1.1125369292536007E-308");
        CHECKS.printed(0x000FFFFFFFFFFFFEL, "2.2250738585072004E-308");
        CHECKS.printed(0x000FFFFFFFFFFFFFL, "2.225073858507201E-308");
        CHECKS.printed(0x0010000000000000L, "2.2250738585072014E-308");
        CHECKS.printed(0x0010000000000001L, "2.225073858507202E-308");
        CHECKS.printed(0x001FFFFFFFFFFFFFL, "4.4501477170144023E-308");
    }

    private static void floatsOfTheLeastPower() {
        CHECKS.printedFloat(0x00000001, "1.4E-45");
        CHECKS.printedFloat(0x00000002, "2.8E-45");
        CHECKS.printedFloat(0x00000003, "4.2E-45");
        CHECKS.printedFloat(0x00400000, "5.877472E-39");
        CHECKS.printedFloat(0x007FFFFE, "1.1754941E-38");
        CHECKS.printedFloat(0x007FFFFF, "1.1754942E-38");
        CHECKS.printedFloat(0x00800000, "1.1754944E-38");
        CHECKS.printedFloat(0x00800001, "1.1754945E-38");
        CHECKS.printedFloat(0x00FFFFFF, "2.3509886E-38");
    }

    private static void firstWithAGreaterPower() {
        CHECKS.printed(0x0020000000000000L, "4.450147717014403E-308");
        CHECKS.printed(0x0020000000000001L, "4.450147717014404E-308");
        CHECKS.printedFloat(0x01000000, "2.3509887E-38");
        CHECKS.printedFloat(0x01000001, "2.350989E-38");
    }

    /** Here a power of two has its neighbours equally near, as c may be less than 2^(P-1). */
    private static void powersOfTwoOfTheLeastPower() {
        CHECKS.printed(1L << 7, "6.3E-322");
        CHECKS.printed(1L << 17, "6.4758E-319");
        CHECKS.printed(1L << 26, "3.3156184E-316");
        CHECKS.printed(1L << 41, "1.086461844974E-311");
        CHECKS.printed(1L << 49, "2.781342323134E-309");
        CHECKS.printedFloat(1 << 4, "2.2E-44");
        CHECKS.printedFloat(1 << 9, "7.17E-43");
        CHECKS.printedFloat(1 << 16, "9.1835E-41");
    }

    /** Here c has to be 2^(P-1) or more: the neighbour below a power of two is twice as near. */
    private static void powersOfTwoAboveIt() {
        CHECKS.doubleIs(0x1p-1019, "1.7800590868057611E-307");
        CHECKS.doubleIs(0x1p-1017, "7.120236347223045E-307");
        CHECKS.doubleIs(0x1p-44, "5.684341886080802E-14");
        // Of ..062 and ..063, equally near, the even one belongs to the number below.
        CHECKS.doubleIs(0x1p-24, "5.960464477539063E-8");
        CHECKS.doubleIs(0x1p1023, "8.98846567431158E307");
        CHECKS.floatIs(0x1p-103f, "9.8607613E-32");
        CHECKS.floatIs(0x1p-96f, "1.2621775E-29");
        CHECKS.floatIs(0x1p25f, "3.3554432E7");
        CHECKS.floatIs(0x1p82f, "4.8357033E24");
        CHECKS.floatIs(0x1p127f, "1.7014118E38");
    }
}
