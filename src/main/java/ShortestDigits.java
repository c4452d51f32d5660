/**
 * Numbers of a small binary format, written with as few decimal digits as name them, or with so
 * many places, and read back from what is typed.
 */
public final class ShortestDigits {
    public static final int BAD_ARG = -1;
    public static final int FULL = -2;
    public static final int NONE = -4;

    private static final int NO_SCALE = -100;
    private static final int NOT_COMPARABLE = 2;

    private static final int LAST_CODE = 1023;
    private static final int CODE_BITS = 10;
    private static final int UNITS_IN_ONE = 512;
    private static final int HALF_UNITS_IN_ONE = 1024;

    private static final int LAST_D = 99999999;
    private static final int FIRST_Q = -12;
    private static final int LAST_Q = 6;
    private static final int MOST_PLACES = 5;
    private static final int NO_CANDIDATE = 0;

    private static final int MOST_DIGITS = 8;
    private static final int POINT = 10;
    private static final int NO_POINT = -1;

    private static final int POWERS = 19;

    private final long[] tenTo = new long[POWERS];

    private int textNumber = 0;
    private int textDigits = 0;
    private int digitsBeforePoint = NO_POINT;

    public ShortestDigits() {
        long power = 1;
        for (int i = 0; i < POWERS; i++) {
            tenTo[i] = power;
            power *= 10;
        }
    }

    public int units(int c) {
        if (!isCode(c)) {
            return BAD_ARG;
        }
        return unitsOf(c);
    }

    public int read(int d, int q) {
        if (!isDecimal(d, q)) {
            return BAD_ARG;
        }
        return codeNearest(d, q);
    }

    public boolean names(int c, int d, int q) {
        return isCode(c) && isDecimal(d, q) && isNamedBy(c, d, q);
    }

    public int compare(int c, int d, int q) {
        if (!isCode(c) || !isDecimal(d, q)) {
            return NOT_COMPARABLE;
        }
        int halfUnits = 2 * unitsOf(c);
        return compareHalfUnits(halfUnits, d, q);
    }

    public int digits(int c) {
        if (!isCode(c)) {
            return BAD_ARG;
        }
        int q = shortScale(c);
        return candidateAt(c, q);
    }

    public int scale(int c) {
        if (!isCode(c)) {
            return NO_SCALE;
        }
        return shortScale(c);
    }

    public int length(int c) {
        if (!isCode(c)) {
            return BAD_ARG;
        }
        int q = shortScale(c);
        int d = candidateAt(c, q);
        return countDigits(d);
    }

    public int written(int c, int p) {
        if (!isCode(c) || p < 0 || p > MOST_PLACES) {
            return BAD_ARG;
        }
        return roundedTo(c, p);
    }

    public int places(int c) {
        if (!isCode(c)) {
            return BAD_ARG;
        }
        for (int p = 0; p < MOST_PLACES; p++) {
            int d = roundedTo(c, p);
            if (isDecimal(d, -p) && isNamedBy(c, d, -p)) {
                return p;
            }
        }
        return MOST_PLACES;
    }

    public int type(int k) {
        if (k < 0 || k > POINT) {
            return BAD_ARG;
        }
        if (k == POINT) {
            return appendPoint();
        }
        return appendDigit(k);
    }

    public int back() {
        // The text grows at its end only, so a point with no digit behind it was typed last.
        if (digitsBeforePoint == textDigits) {
            digitsBeforePoint = NO_POINT;
            return POINT;
        }
        if (textDigits == 0) {
            return NONE;
        }
        int digit = textNumber % 10;
        textNumber /= 10;
        textDigits--;
        return digit;
    }

    public void clear() {
        textNumber = 0;
        textDigits = 0;
        digitsBeforePoint = NO_POINT;
    }

    public int typed() {
        int q = textScale();
        return codeNearest(textNumber, q);
    }

    public int typedDigits() {
        return textNumber;
    }

    public int spare() {
        int q = textScale();
        int code = codeNearest(textNumber, q);
        for (int k = textDigits; k > 0; k--) {
            int dropped = (int) (textNumber % tenTo[k]);
            int reread = codeNearest(textNumber - dropped, q);
            if (reread == code) {
                return k;
            }
        }
        return 0;
    }

    private static boolean isCode(int c) {
        return c >= 0 && c <= LAST_CODE;
    }

    private static boolean isDecimal(int d, int q) {
        return d >= 0 && d <= LAST_D && q >= FIRST_Q && q <= LAST_Q;
    }

    /** Good for 1024 too, the code past the last one, whose value bounds the naming of 1023. */
    private static int unitsOf(int c) {
        int e = c / 64;
        int m = c % 64;
        if (e == 0) {
            return m;
        }
        return (64 + m) << (e - 1);
    }

    /**
     * Half units, because the border between two codes may lie half a unit from both. The power of
     * ten goes to the side that keeps both whole: at most 2^22 * 10^12 and 2^10 * 10^14, so that
     * neither leaves a long.
     */
    private int compareHalfUnits(int halfUnits, int d, int q) {
        long value = halfUnits;
        long decimal = (long) HALF_UNITS_IN_ONE * d;
        if (q < 0) {
            value *= tenTo[-q];
        } else {
            decimal *= tenTo[q];
        }
        if (value == decimal) {
            return 0;
        }
        return value < decimal ? -1 : 1;
    }

    /** Whether the decimal is read as code c or a greater one; a border is its even code's. */
    private boolean reaches(int c, int d, int q) {
        if (c == 0) {
            return true;
        }
        int border = unitsOf(c - 1) + unitsOf(c);
        int side = compareHalfUnits(border, d, q);
        return side < 0 || (side == 0 && c % 2 == 0);
    }

    /** Bit by bit from the highest, since whatever reaches a code reaches all lesser ones. */
    private int codeNearest(int d, int q) {
        int code = 0;
        for (int bit = CODE_BITS - 1; bit >= 0; bit--) {
            int greater = code + (1 << bit);
            if (reaches(greater, d, q)) {
                code = greater;
            }
        }
        return code;
    }

    /** For code 1023 the border to 1024 is 4080, and is 1024's: just the limit of naming. */
    private boolean isNamedBy(int c, int d, int q) {
        return reaches(c, d, q) && !reaches(c + 1, d, q);
    }

    /** The q of the short decimal; its d is then candidateAt(c, q). */
    private int shortScale(int c) {
        int bestD = NO_CANDIDATE;
        int bestQ = 0;
        for (int q = FIRST_Q; q <= LAST_Q; q++) {
            int d = candidateAt(c, q);
            if (d != NO_CANDIDATE && isBetter(c, d, q, bestD, bestQ)) {
                bestD = d;
                bestQ = q;
            }
        }
        return bestQ;
    }

    /**
     * The only d that can be the short one at this q. The decimals that name a code lie without a
     * gap around its value, so if any d names it, one of the two next to the value does. Where such
     * a neighbour is a multiple of 10, a decimal without its zeros names the code with fewer
     * digits, at a greater q.
     */
    private int candidateAt(int c, int q) {
        if (c == 0) {
            return NO_CANDIDATE;
        }
        long whole = wholePart(c, q);
        if (whole > LAST_D) {
            return NO_CANDIDATE;
        }
        int best = NO_CANDIDATE;
        int below = (int) whole;
        for (int d = below; d <= below + 1; d++) {
            // LAST_D + 1 is a multiple of 10, so that it is left out as well.
            boolean fits = d % 10 != 0 && isNamedBy(c, d, q);
            if (fits && isBetter(c, d, q, best, q)) {
                best = d;
            }
        }
        return best;
    }

    /** The value of code c divided by 10 to the power q, rounded down. */
    private long wholePart(int c, int q) {
        long value = unitsOf(c);
        if (q < 0) {
            return value * tenTo[-q] / UNITS_IN_ONE;
        }
        return value / (UNITS_IN_ONE * tenTo[q]);
    }

    private boolean isBetter(int c, int d, int q, int bestD, int bestQ) {
        if (bestD == NO_CANDIDATE) {
            return true;
        }
        int count = countDigits(d);
        int bestCount = countDigits(bestD);
        if (count != bestCount) {
            return count < bestCount;
        }
        long distance = distanceFrom(c, d, q);
        long bestDistance = distanceFrom(c, bestD, bestQ);
        if (distance != bestDistance) {
            return distance < bestDistance;
        }
        return d < bestD;
    }

    /**
     * In units of u / 10^12, where every decimal is whole. Only for decimals that name a code:
     * these are less than 4080, so that the products stay in a long.
     */
    private long distanceFrom(int c, int d, int q) {
        long value = unitsOf(c) * tenTo[-FIRST_Q];
        long decimal = (long) UNITS_IN_ONE * d * tenTo[q - FIRST_Q];
        return value < decimal ? decimal - value : value - decimal;
    }

    private int countDigits(int d) {
        int count = 1;
        while (count < MOST_DIGITS && d >= tenTo[count]) {
            count++;
        }
        return count;
    }

    private int roundedTo(int c, int p) {
        long scaled = unitsOf(c) * tenTo[p];
        int whole = (int) (scaled / UNITS_IN_ONE);
        int twiceRest = (int) (scaled % UNITS_IN_ONE) * 2;
        boolean up = twiceRest > UNITS_IN_ONE || (twiceRest == UNITS_IN_ONE && whole % 2 == 1);
        return up ? whole + 1 : whole;
    }

    private int appendPoint() {
        if (digitsBeforePoint != NO_POINT) {
            return FULL;
        }
        digitsBeforePoint = textDigits;
        return textDigits;
    }

    private int appendDigit(int digit) {
        if (textDigits == MOST_DIGITS) {
            return FULL;
        }
        textNumber = textNumber * 10 + digit;
        textDigits++;
        return textDigits;
    }

    private int textScale() {
        return digitsBeforePoint == NO_POINT ? 0 : digitsBeforePoint - textDigits;
    }
}
