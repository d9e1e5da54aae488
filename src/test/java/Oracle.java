import java.math.BigDecimal;
import java.math.MathContext;
import java.math.RoundingMode;
import java.util.function.Predicate;

/** PRINTED as the document's words say it, with exact decimals and the library's own reading of them. */
final class Oracle {
    private Oracle() {
    }

    static String printed(long bits) {
        double x = Double.longBitsToDouble(bits);
        if (Double.isNaN(x)) {
            return "NaN";
        }
        double size = Math.abs(x);
        String sign = bits < 0 ? "-" : "";
        if (Double.isInfinite(x) || x == 0) {
            return sign + (x == 0 ? "0.0" : "Infinity");
        }
        return sign + layOut(shortest(new BigDecimal(size), decimal -> decimal.doubleValue() == size));
    }

    static String printedFloat(int bits) {
        float x = Float.intBitsToFloat(bits);
        if (Float.isNaN(x)) {
            return "NaN";
        }
        float size = Math.abs(x);
        String sign = bits < 0 ? "-" : "";
        if (Float.isInfinite(x) || x == 0) {
            return sign + (x == 0 ? "0.0" : "Infinity");
        }
        return sign + layOut(shortest(new BigDecimal(size), decimal -> decimal.floatValue() == size));
    }

    private static BigDecimal shortest(BigDecimal x, Predicate<BigDecimal> reads) {
        for (int n = 2; ; n++) {
            BigDecimal down = x.round(new MathContext(n, RoundingMode.DOWN));
            BigDecimal up = x.round(new MathContext(n, RoundingMode.UP));
            boolean downReads = reads.test(down);
            boolean upReads = reads.test(up);
            if (downReads && upReads) {
                return nearer(x, down, up);
            }
            if (downReads || upReads) {
                return downReads ? down : up;
            }
        }
    }

    private static BigDecimal nearer(BigDecimal x, BigDecimal down, BigDecimal up) {
        int order = x.subtract(down).compareTo(up.subtract(x));
        if (order == 0) {
            return down.unscaledValue().testBit(0) ? up : down;
        }
        return order < 0 ? down : up;
    }

    private static String layOut(BigDecimal value) {
        BigDecimal bare = value.stripTrailingZeros();
        String digits = bare.unscaledValue().toString();
        int p = bare.precision() - bare.scale();
        if (p >= -2 && p <= 7) {
            String plain = bare.toPlainString();
            return plain.indexOf('.') < 0 ? plain + ".0" : plain;
        }
        String behind = digits.length() == 1 ? "0" : digits.substring(1);
        return digits.charAt(0) + "." + behind + "E" + (p - 1);
    }
}
