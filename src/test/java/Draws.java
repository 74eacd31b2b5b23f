import java.math.BigInteger;

/** Draws, reckoned from the words of the document, forwards and backwards. */
final class Draws {
    private static final BigInteger FACTOR = BigInteger.valueOf(1103515245);
    private static final BigInteger SUMMAND = BigInteger.valueOf(12345);
    private static final BigInteger MODULUS = BigInteger.valueOf(2147483648L);

    private Draws() {
    }

    static int behind(int number) {
        return BigInteger.valueOf(number).multiply(FACTOR).add(SUMMAND).mod(MODULUS).intValueExact();
    }

    /** The number of the draw that becomes this one: the factor is odd, so there is just one. */
    static int before(int number) {
        return BigInteger.valueOf(number).subtract(SUMMAND).multiply(FACTOR.modInverse(MODULUS)).mod(MODULUS)
            .intValueExact();
    }

    /** Sets the number of the draw so that the next draw takes this word: r is the sum of the weights before it. */
    static void prepare(GuessingHall hall, int word) {
        int before = 0;
        for (int index = 0; index < word; index++) {
            before += hall.wordOf(index, 1);
        }
        hall.seed(before(before * 65536));
    }

    /** A hall in its first round, in which this word of the list is guessed. */
    static GuessingHall round(String list, int word, int stake, int... purses) {
        GuessingHall hall = Checks.hall(list, purses);
        prepare(hall, word);
        Checks.due("next() of a prepared draw", hall.next(), word);
        Checks.due("begin(" + stake + ")", hall.begin(stake), hall.wordOf(word, 0));
        return hall;
    }
}
