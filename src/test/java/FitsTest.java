import java.util.function.Supplier;

/** Promises 16 to 19: fits, letterOf, sharpest, next. */
public final class FitsTest {
    public static void main(String[] args) {
        fits();
        openPlaces();
        tiesOfLetters();
        refusedCalls();
        chances();
        groups();
        sharpest();
        next();
        Checks.finish();
    }

    /** The lists are such that the first draw takes their word of weight 99, if there is one. */
    private static GuessingHall inRound(String list) {
        GuessingHall hall = Checks.hall(list, 50);
        hall.set(0, 12);
        hall.begin(1);
        return hall;
    }

    private static int[] fitsOf(GuessingHall hall) {
        int[] answers = new int[5];
        for (int what = 0; what < 5; what++) {
            answers[what] = hall.fits(what);
        }
        return answers;
    }

    private static void dueFits(String what, GuessingHall hall, int... due) {
        int[] answers = fitsOf(hall);
        for (int index = 0; index < 5; index++) {
            Checks.due("fits(" + index + ") " + what, answers[index], due[index]);
        }
    }

    private static void fits() {
        GuessingHall hall = inRound("bead*3;beef*99;abcd*2;ee*1;feed*4;");
        Checks.due("wordOf(1, 3)", hall.wordOf(1, 3), 1);
        dueFits("at first", hall, 0b10111, 4, 108, 'e' - 'a', 106);
        hall.guess('a' - 'a');
        dueFits("behind a", hall, 0b10010, 2, 103, 'e' - 'a', 103);
        hall.guess('d' - 'a');
        dueFits("behind d", hall, 0b00010, 1, 99, 'b' - 'a', 99);
        hall.guess('b' - 'a');
        dueFits("behind b", hall, 0b00010, 1, 99, 'e' - 'a', 99);
        hall.guess('e' - 'a');
        dueFits("behind e", hall, 0b00010, 1, 99, 'f' - 'a', 99);
        hall.guess('f' - 'a');
        for (int what = 0; what < 5; what++) {
            Checks.due("fits(" + what + ") without a round", hall.fits(what), Checks.NOT_POSSIBLE);
        }
    }

    /** A word that has an open letter at another place too, or not at all its places, fits no more. */
    private static void openPlaces() {
        GuessingHall hall = inRound("aba*1;abb*99;bab*1;cbb*1;bbb*1;acc*1;adb*1;");
        hall.guess('b' - 'a');
        dueFits("behind b", hall, 0b0001010, 2, 100, 'a' - 'a', 99);
        hall.guess('x' - 'a');
        hall.guess('c' - 'a');
        dueFits("behind c", hall, 0b0000010, 1, 99, 'a' - 'a', 99);
    }

    private static void tiesOfLetters() {
        GuessingHall hall = inRound("zy*1;yx*99;");
        dueFits("of two", hall, 3, 2, 100, 'y' - 'a', 100);
        hall.guess('y' - 'a');
        dueFits("behind y", hall, 2, 1, 99, 'x' - 'a', 99);
        hall = inRound("db*7;");
        dueFits("of letters that fit alike", hall, 1, 1, 7, 'b' - 'a', 7);
        hall.tell(0);
        hall.begin(1);
        hall.guess('b' - 'a');
        dueFits("of a letter that is guessed", hall, 1, 1, 7, 'd' - 'a', 7);
    }

    private static void refusedCalls() {
        GuessingHall hall = inRound("ab*1;cd*99;");
        hall.guess('c' - 'a');
        hall.guess('z' - 'a');
        Checks.due("fits(5)", hall.fits(5), Checks.INVALID);
        Checks.due("letterOf(0, 3)", hall.letterOf(0, 3), Checks.INVALID);
        Checks.due("letterOf(2, 3)", hall.letterOf(2, 3), Checks.INVALID);
        Checks.due("letterOf(26, 0)", hall.letterOf(26, 0), Checks.INVALID);
        for (int what = 0; what < 3; what++) {
            Checks.due("letterOf(2, " + what + ")", hall.letterOf(2, what), Checks.NOT_POSSIBLE);
            Checks.due("letterOf(25, " + what + ")", hall.letterOf(25, what), Checks.NOT_POSSIBLE);
        }
        GuessingHall still = Checks.hall("ab*1;", 5);
        Checks.due("letterOf(0, 0) without a round", still.letterOf(0, 0), Checks.NOT_POSSIBLE);
        Checks.due("letterOf(26, 0) without a round", still.letterOf(26, 0), Checks.INVALID);
        Checks.due("letterOf(0, 3) without a round", still.letterOf(0, 3), Checks.INVALID);
        Checks.due("fits(5) without a round", still.fits(5), Checks.INVALID);
        Checks.due("fits(0) without a round", still.fits(0), Checks.NOT_POSSIBLE);
        Checks.due("sharpest() without a round", still.sharpest(), Checks.NOT_POSSIBLE);
        for (int far : Checks.FAR) {
            Checks.due("fits(" + far + ")", hall.fits(far), Checks.INVALID);
            Checks.due("letterOf(" + far + ", 0)", hall.letterOf(far, 0), Checks.INVALID);
            Checks.due("letterOf(0, " + far + ")", hall.letterOf(0, far), Checks.INVALID);
        }
    }

    /** The bits of every chance that two words can make. */
    private static void chances() {
        for (int first = 1; first <= 99; first++) {
            GuessingHall hall = Checks.hall("ab*1;ac*1;", 5);
            hall.word(0, first);
            for (int second = 1; second <= 99; second++) {
                hall.word(1, second);
                hall.begin(1);
                Checks.due("letterOf(1, 0)", hall.letterOf(1, 0), first);
                Checks.due("letterOf(1, 1) of " + first + " and " + second, hall.letterOf(1, 1),
                    Float.floatToIntBits((float) first / (float) (first + second)));
                hall.undo();
            }
            hall.begin(1);
            Checks.due("letterOf(0, 1), which all have", hall.letterOf(0, 1), Float.floatToIntBits(1f));
            Checks.due("letterOf(25, 1), which none has", hall.letterOf(25, 1), 0);
            Checks.due("letterOf(25, 0), which none has", hall.letterOf(25, 0), 0);
        }
    }

    private static void groups() {
        GuessingHall hall = inRound("abab*1;baba*99;aabb*1;abcd*1;cccc*1;dcba*1;aa*1;");
        // a stands at 1010, 0101, 1100, 1000, nowhere, 0001 of the six words of four letters
        Checks.due("letterOf(a, 2)", hall.letterOf(0, 2), 1);
        // b stands at 0101, 1010, 0011, 0100, nowhere, 0010
        Checks.due("letterOf(b, 2)", hall.letterOf(1, 2), 1);
        // c stands nowhere, nowhere, nowhere, 0010, 1111, 0100
        Checks.due("letterOf(c, 2)", hall.letterOf(2, 2), 3);
        Checks.due("letterOf(d, 2)", hall.letterOf(3, 2), 4);
        Checks.due("letterOf(e, 2)", hall.letterOf(4, 2), 6);
        hall.guess('d' - 'a');
        Checks.due("letterOf(c, 2) behind d", hall.letterOf(2, 2), 3);
        Checks.due("letterOf(e, 2) behind d", hall.letterOf(4, 2), 4);
        hall.guess('b' - 'a');
        Checks.due("letterOf(a, 2), which would open all", hall.letterOf(0, 2), 1);
    }

    private static void sharpest() {
        GuessingHall hall = inRound("abab*1;baba*99;aabb*1;abcd*1;cccc*1;dcba*1;aa*1;");
        Checks.due("sharpest() of a and b", hall.sharpest(), 0);
        hall.guess(0);
        Checks.due("sharpest() with a guessed", hall.sharpest(), 1);
        hall = inRound("axy*1;ayx*99;azz*1;");
        Checks.due("sharpest(): x parts all", hall.sharpest(), 'x' - 'a');
        Checks.due("letterOf(x, 2)", hall.letterOf('x' - 'a', 2), 1);
        Checks.due("letterOf(a, 2)", hall.letterOf(0, 2), 3);
        Checks.due("letterOf(z, 2)", hall.letterOf(25, 2), 2);
        hall = inRound("az*9;");
        Checks.due("sharpest() of one word", hall.sharpest(), 0);
        hall.guess(0);
        Checks.due("sharpest() of one word behind a", hall.sharpest(), 1);
    }

    private static void next() {
        GuessingHall hall = Checks.hall("ab*1;cd*2;ef*3;", 5);
        for (int seed = 0; seed < 40; seed++) {
            hall.seed(seed);
            int rest = (int) ((seed * 1103515245L + 12345L) % 2147483648L / 65536 % 6);
            int due = rest < 1 ? 0 : rest < 3 ? 1 : 2;
            Checks.due("next() of seed " + seed, hall.next(), due);
            Checks.due("next() again", hall.next(), due);
            Checks.due("count(10)", hall.count(10), seed);
            hall.begin(1);
            Checks.due("wordOf(due, 3)", hall.wordOf(due, 3), 1);
            hall.undo();
        }
        Supplier<GuessingHall> inRound = () -> inRound("ab*1;");
        Checks.refused("next() in a round", Checks.NOT_POSSIBLE, inRound, x -> x.next());
        Checks.due("next() without players", Checks.hall("ab*1;").next(), 0);
        Checks.due("next() without words", Checks.hall("", 5).next(), Checks.NOT_POSSIBLE);
    }
}
