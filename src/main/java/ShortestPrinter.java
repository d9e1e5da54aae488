/** Binary floating point printed as the shortest decimal that reads back, the nearest one of these. */
public final class ShortestPrinter {
    private static final int DOUBLE_FRACTION_BITS = 52;
    private static final int DOUBLE_EXPONENT_ONES = 0x7FF;
    private static final int FLOAT_FRACTION_BITS = 23;
    private static final int FLOAT_EXPONENT_ONES = 0xFF;

    private static final int LEAST_PLAIN_POINT = -2;
    private static final int GREATEST_PLAIN_POINT = 7;
    private static final int BYTES_OF_A_WORD = 8;

    private final Text result;
    private final Shortest shortest;

    public ShortestPrinter() {
        result = new Text();
        shortest = new Shortest();
    }

    public int print(long bits) {
        long fraction = bits & ((1L << DOUBLE_FRACTION_BITS) - 1);
        int exponent = (int) (bits >>> DOUBLE_FRACTION_BITS) & DOUBLE_EXPONENT_ONES;
        write(bits < 0, exponent, DOUBLE_EXPONENT_ONES, fraction, DOUBLE_FRACTION_BITS);
        return result.length();
    }

    public int printFloat(int bits) {
        int fraction = bits & ((1 << FLOAT_FRACTION_BITS) - 1);
        int exponent = (bits >>> FLOAT_FRACTION_BITS) & FLOAT_EXPONENT_ONES;
        write(bits < 0, exponent, FLOAT_EXPONENT_ONES, fraction, FLOAT_FRACTION_BITS);
        return result.length();
    }

    public long word(int i) throws IndexOutOfBoundsException {
        if (!result.holds(i)) {
            throw new IndexOutOfBoundsException();
        }
        long bytes = 0;
        for (int k = 0; k < BYTES_OF_A_WORD; k++) {
            bytes = bytes << 8 | result.letterOrZero(i + k);
        }
        return bytes;
    }

    private void write(boolean minus, int exponent, int exponentOnes, long fraction, int fractionBits) {
        boolean finite = exponent != exponentOnes;
        boolean nan = !finite && fraction != 0;
        result.clear();
        if (minus && !nan) {
            result.add('-');
        }
        if (nan) {
            result.addAll("NaN");
        } else if (!finite) {
            result.addAll("Infinity");
        } else if (exponent == 0 && fraction == 0) {
            result.addAll("0.0");
        } else {
            int leastPower = 1 - exponentOnes / 2 - fractionBits;
            findShortest(exponent, leastPower, fraction, 1L << fractionBits);
            writeShortest();
        }
    }

    private void findShortest(int exponent, int leastPower, long fraction, long hiddenBit) {
        if (exponent == 0) {
            shortest.find(fraction, leastPower, false);
        } else {
            // Below a power of two the numbers lie twice as close as above it, but not
            // below the least one with a hidden bit: the numbers without one keep its q.
            boolean closerBelow = fraction == 0 && exponent > 1;
            shortest.find(hiddenBit | fraction, leastPower + exponent - 1, closerBelow);
        }
    }

    private void writeShortest() {
        int point = shortest.point();
        if (point >= LEAST_PLAIN_POINT && point <= GREATEST_PLAIN_POINT) {
            writeAround(Math.min(point - 1, 0), point);
        } else {
            writeAround(0, 1);
            result.add('E');
            result.addExponent(point - 1);
        }
    }

    /** The digits from first on with the point before digit number point, and one digit behind it at least. */
    private void writeAround(int first, int point) {
        for (int i = first; i < point; i++) {
            result.add(shortest.digit(i));
        }
        result.add('.');
        int end = Math.max(shortest.count(), point + 1);
        for (int i = point; i < end; i++) {
            result.add(shortest.digit(i));
        }
    }

    /** The letters of THE RESULT. */
    private static final class Text {
        // The longest texts, such as -2.2250738585072014E-308, have 24 letters.
        private static final int MOST_LETTERS = 24;

        private final byte[] letters;
        private int length;

        Text() {
            letters = new byte[MOST_LETTERS];
            length = 0;
        }

        void clear() {
            length = 0;
        }

        void add(char letter) {
            if (length < letters.length) {
                letters[length] = (byte) letter;
                length++;
            }
        }

        void addAll(String text) {
            for (int i = 0; i < text.length(); i++) {
                add(text.charAt(i));
            }
        }

        void addExponent(int exponent) {
            if (exponent < 0) {
                add('-');
            }
            int size = Math.abs(exponent);
            if (size >= 100) {
                add(digitLetter(size / 100));
            }
            if (size >= 10) {
                add(digitLetter(size / 10));
            }
            add(digitLetter(size));
        }

        private static char digitLetter(int number) {
            return (char) ('0' + number % 10);
        }

        int length() {
            return length;
        }

        boolean holds(int i) {
            return i >= 0 && i < length;
        }

        int letterOrZero(int i) {
            return holds(i) ? letters[i] : 0;
        }
    }

    /**
     * The SHORTEST decimal of x = c 2^q, as 0.d1 d2 .. 10^point.
     *
     * If d are the first n digits of x, then of all decimals of n digits d is the nearest one at or
     * below x, and d + 1, in its last place, the nearest one above: no other can be SHORTEST.
     * The rows share one measure: whole is a one in the last place of d, rest is what x has
     * beyond d, and below and above are how far R reaches on either side of x.
     */
    private static final class Shortest {
        private static final int LEAST_DIGITS = 2;
        // 17 digits tell all doubles apart.
        private static final int MOST_DIGITS = 17;
        // log10(2) 2^41, rounded down: near enough for powers of two far beyond those of doubles.
        private static final long LOG_OF_TWO = 661971961083L;
        private static final int LOG_SHIFT = 41;

        private final Natural whole;
        private final Natural rest;
        private final Natural below;
        private final Natural above;
        private final Natural sum;
        private final char[] digits;
        private int count;
        private int point;

        Shortest() {
            whole = new Natural();
            rest = new Natural();
            below = new Natural();
            above = new Natural();
            sum = new Natural();
            digits = new char[MOST_DIGITS];
            count = 0;
            point = 0;
        }

        int point() {
            return point;
        }

        int count() {
            return count;
        }

        /** Zero for places before the first and behind the last digit. */
        char digit(int i) {
            return i >= 0 && i < count ? digits[i] : '0';
        }

        void find(long c, int q, boolean closerBelow) {
            start(c, q, closerBelow);
            boolean even = (c & 1) == 0;
            boolean down = false;
            boolean up = false;
            long number = 0;
            int places = 0;
            while (places < MOST_DIGITS && !down && !up) {
                number = number * 10 + nextDigit();
                places++;
                if (places >= LEAST_DIGITS) {
                    down = downReadsBack(even);
                    up = upReadsBack(even);
                }
            }
            if (up && (!down || upIsBetter(number))) {
                number++;
            }
            keep(number, point - places);
        }

        /** Sets point so that x lies from 10^(point - 1) to below 10^point, and the rows for no digit at all. */
        private void start(long c, int q, boolean closerBelow) {
            // R ends halfway to x's neighbours: a quarter of 2^q is the greatest measure that divides all.
            int quarter = q - 2;
            int log2 = q + 63 - Long.numberOfLeadingZeros(c);
            point = 1 + (int) (log2 * LOG_OF_TWO >> LOG_SHIFT);
            // Twos that 2^quarter and 10^point share are left out, which keeps the rows short.
            int fives = Math.max(-point, 0);
            int twos = Math.max(quarter - point, 0);
            rest.setProduct(4 * c, fives, twos);
            above.setProduct(2, fives, twos);
            below.setProduct(closerBelow ? 1 : 2, fives, twos);
            whole.setProduct(1, Math.max(point, 0), Math.max(point - quarter, 0));
            if (rest.compare(whole) >= 0) {
                point++;
                whole.multiply(10);
            }
        }

        private int nextDigit() {
            rest.multiply(10);
            above.multiply(10);
            below.multiply(10);
            int digit = 0;
            while (digit < 9 && rest.compare(whole) >= 0) {
                rest.subtract(whole);
                digit++;
            }
            return digit;
        }

        /** A number halfway between two of the kind is read as the even one. */
        private boolean downReadsBack(boolean even) {
            int order = rest.compare(below);
            return order < 0 || order == 0 && even;
        }

        private boolean upReadsBack(boolean even) {
            sum.setSum(rest, above);
            int order = sum.compare(whole);
            return order > 0 || order == 0 && even;
        }

        private boolean upIsBetter(long number) {
            sum.setSum(rest, rest);
            int order = sum.compare(whole);
            return order > 0 || order == 0 && (number & 1) == 1;
        }

        /** Keeps number 10^power, number above 0 and at most 10^17. */
        private void keep(long number, int power) {
            long left = number;
            int dropped = 0;
            while (dropped < MOST_DIGITS && left % 10 == 0) {
                left /= 10;
                dropped++;
            }
            count = 0;
            for (long more = left; count < MOST_DIGITS && more > 0; more /= 10) {
                count++;
            }
            for (int i = count - 1; i >= 0; i--) {
                digits[i] = (char) ('0' + left % 10);
                left /= 10;
            }
            point = power + dropped + count;
        }
    }

    /** A whole number, not negative, in a row of its own that is used again. */
    private static final class Natural {
        // The longest rows are those of doubles near the least and the greatest one: below 800 bits.
        private static final int MOST_LIMBS = 28;
        private static final int LIMB_BITS = 32;
        private static final long LIMB_MASK = 0xFFFFFFFFL;
        private static final int FIVES_OF_A_LIMB = 13;
        private static final int FIVE_TO_13 = 1220703125;

        // The lowest first; all from used on are 0.
        private final int[] limbs;
        private int used;

        Natural() {
            limbs = new int[MOST_LIMBS];
            used = 0;
        }

        /** value 5^fives 2^twos. */
        void setProduct(long value, int fives, int twos) {
            clear();
            int first = Math.min(twos / LIMB_BITS, MOST_LIMBS - 2);
            limbs[first] = (int) value;
            limbs[first + 1] = (int) (value >>> LIMB_BITS);
            used = first + 2;
            // Two steps, as the factor of one step has to stay a positive int.
            int odd = twos % LIMB_BITS;
            multiply(1 << (odd / 2));
            multiply(1 << (odd - odd / 2));
            int left = fives;
            for (; left >= FIVES_OF_A_LIMB; left -= FIVES_OF_A_LIMB) {
                multiply(FIVE_TO_13);
            }
            int factor = 1;
            for (; left > 0; left--) {
                factor *= 5;
            }
            multiply(factor);
        }

        void multiply(int factor) {
            long carry = 0;
            for (int i = 0; i < used; i++) {
                carry += (limbs[i] & LIMB_MASK) * factor;
                limbs[i] = (int) carry;
                carry >>>= LIMB_BITS;
            }
            append((int) carry);
        }

        /** The sum of two others than this. */
        void setSum(Natural a, Natural b) {
            clear();
            used = Math.max(a.used, b.used);
            long carry = 0;
            for (int i = 0; i < used; i++) {
                carry += (a.limbs[i] & LIMB_MASK) + (b.limbs[i] & LIMB_MASK);
                limbs[i] = (int) carry;
                carry >>>= LIMB_BITS;
            }
            append((int) carry);
        }

        /** Takes away one that is not greater than this. */
        void subtract(Natural other) {
            long borrow = 0;
            for (int i = 0; i < used; i++) {
                borrow += (limbs[i] & LIMB_MASK) - (other.limbs[i] & LIMB_MASK);
                limbs[i] = (int) borrow;
                borrow >>= LIMB_BITS;
            }
        }

        int compare(Natural other) {
            for (int i = Math.max(used, other.used) - 1; i >= 0; i--) {
                int order = Long.compare(limbs[i] & LIMB_MASK, other.limbs[i] & LIMB_MASK);
                if (order != 0) {
                    return order;
                }
            }
            return 0;
        }

        private void clear() {
            for (int i = 0; i < used; i++) {
                limbs[i] = 0;
            }
            used = 0;
        }

        private void append(int limb) {
            if (limb != 0 && used < MOST_LIMBS) {
                limbs[used] = limb;
                used++;
            }
        }
    }
}
