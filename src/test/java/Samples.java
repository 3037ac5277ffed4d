/** Setups, objects and numbers that several tests start from. */
final class Samples {
    /** {1, x} with tables whose products differ in all four places: 1, 4; 2, 6 and 2, 3; 4, 5. */
    static final String CLASHING = "join 1 0; rule 0 1 is 1 0 0, 1 1 0; rule 2 0 is 1 0 0, 1 1 0;"
        + "rule 1 1 is 2 0 0, 4 1 0;";
    /** {1, x} with x * x = 4 and y = 3 * x: the zeros (2, 6) and (29, 25). */
    static final String TWO_ZEROS = "join 1 0; rule 2 0 is 4 0 0; rule 0 1 is 3 1 0; rule 1 1 is 12 0 0;";
    /** Numbers that are outside of every range; times 12 the last two wrap round to 8 and to 0. */
    static final int[] FAR_OUTSIDE = {Integer.MIN_VALUE, Integer.MIN_VALUE + 1, Integer.MAX_VALUE,
        Integer.MAX_VALUE - 1, 1 << 16, 357913942, 1 << 30};

    private Samples() {
    }

    /** {1, x, .., x^(size - 1)}. */
    static String row(int size) {
        StringBuilder text = new StringBuilder();
        for (int i = 1; i < size; i++) {
            text.append("join ").append(i).append(" 0;");
        }
        return text.toString();
    }

    /** {1, y, .., y^(size - 1)}. */
    static String column(int size) {
        StringBuilder text = new StringBuilder();
        for (int j = 1; j < size; j++) {
            text.append("join 0 ").append(j).append(';');
        }
        return text.toString();
    }

    /** (0, 0), (1, 1), .., (number - 1, number - 1). */
    static String points(int number) {
        StringBuilder text = new StringBuilder();
        for (int k = 0; k < number; k++) {
            text.append("point ").append(k).append(' ').append(k).append(';');
        }
        return text.toString();
    }

    /** The number itself is the least that is outside, so are -1 and what is far outside. */
    static int[] outside(int number) {
        int[] numbers = new int[FAR_OUTSIDE.length + 2];
        numbers[0] = -1;
        numbers[1] = number;
        System.arraycopy(FAR_OUTSIDE, 0, numbers, 2, FAR_OUTSIDE.length);
        return numbers;
    }

    static int power(int base, int exponent, int prime) {
        int power = 1;
        for (int k = 0; k < exponent; k++) {
            power = power * base % prime;
        }
        return power;
    }
}
