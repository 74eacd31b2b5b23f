import java.util.function.Supplier;

/** Promises 1 to 6: a new object, word, seat, lend, set, seed. */
public final class WordsAndPlayersTest {
    private static final String LIST = "ab*1;cd*99;efg*50;";

    public static void main(String[] args) {
        newObject();
        word();
        seat();
        lend();
        lendInARound();
        set();
        seed();
        Checks.finish();
    }

    private static GuessingHall ready() {
        return Checks.hall(LIST, 10, 0, 999);
    }

    private static GuessingHall inRound() {
        GuessingHall hall = Checks.hall(LIST, 10, 20, 999);
        hall.begin(1);
        return hall;
    }

    private static void newObject() {
        GuessingHall hall = new GuessingHall();
        int[] counts = {0, 0, 0, -4, -4, -4, -4, -4, 0, 0, 1, 0, 0, 0, 0, 7};
        for (int what = 0; what < counts.length; what++) {
            Checks.due("new: count(" + what + ")", hall.count(what), counts[what]);
        }
        Checks.due("new: wordOf(0, 0)", hall.wordOf(0, 0), Checks.INVALID);
        Checks.due("new: playerOf(0, 0)", hall.playerOf(0, 0), Checks.INVALID);
        Checks.due("new: round(0, 0)", hall.round(0, 0), Checks.NOT_FOUND);
        Checks.due("new: next()", hall.next(), Checks.NOT_POSSIBLE);
        Checks.due("new: begin(1)", hall.begin(1), Checks.NOT_POSSIBLE);
        Checks.due("new: guess(0)", hall.guess(0), Checks.NOT_POSSIBLE);
        Checks.due("new: fits(0)", hall.fits(0), Checks.NOT_POSSIBLE);
        Checks.due("new: restore()", hall.restore(), Checks.NOT_POSSIBLE);
        Checks.due("new: undo()", hall.undo(), Checks.NOT_POSSIBLE);
        Checks.due("new: fault(0)", hall.fault(0), 0);
        Checks.due("new: fault(1)", hall.fault(1), 1);
        Checks.due("another one is apart from it", ready().count(0), 3);
        Checks.due("new: count(0) still", hall.count(0), 0);
    }

    private static void word() {
        GuessingHall hall = ready();
        Checks.due("word(0, 99)", hall.word(0, 99), 1);
        Checks.due("word(0, 1)", hall.word(0, 1), 99);
        Checks.due("word(2, 7)", hall.word(2, 7), 50);
        Checks.due("wordOf(2, 1)", hall.wordOf(2, 1), 7);
        Checks.due("wordOf(1, 1)", hall.wordOf(1, 1), 99);
        Checks.due("count(11)", hall.count(11), 107);
        Checks.due("count(12)", hall.count(12), 4);
        Checks.refused("word(0, 0)", Checks.INVALID, WordsAndPlayersTest::ready, x -> x.word(0, 0));
        Checks.refused("word(0, 100)", Checks.INVALID, WordsAndPlayersTest::ready, x -> x.word(0, 100));
        Checks.refused("word(3, 5)", Checks.INVALID, WordsAndPlayersTest::ready, x -> x.word(3, 5));
        Checks.refused("word(0, 5)", Checks.NOT_POSSIBLE, WordsAndPlayersTest::inRound, x -> x.word(0, 5));
        Checks.due("word(3, 5) in a round", inRound().word(3, 5), Checks.INVALID);
        Checks.due("word(0, 100) in a round", inRound().word(0, 100), Checks.INVALID);
        for (int far : Checks.FAR) {
            Checks.due("word(" + far + ", 5)", ready().word(far, 5), Checks.INVALID);
            Checks.due("word(0, " + far + ")", ready().word(0, far), Checks.INVALID);
        }
        Checks.due("word(0, 1) without words", new GuessingHall().word(0, 1), Checks.INVALID);
    }

    private static void seat() {
        GuessingHall hall = new GuessingHall();
        int[] purses = {0, 999, 1, 5, 7};
        for (int player = 0; player < 5; player++) {
            Checks.due("seat(" + purses[player] + ")", hall.seat(purses[player]), player);
            for (int what = 1; what <= 3; what++) {
                Checks.due("playerOf(" + player + ", " + what + ")", hall.playerOf(player, what), 0);
            }
        }
        for (int player = 0; player < 5; player++) {
            Checks.due("playerOf(" + player + ", 0)", hall.playerOf(player, 0), purses[player]);
        }
        Checks.due("count(1)", hall.count(1), 5);
        Supplier<GuessingHall> full = () -> Checks.hall(LIST, 0, 1, 2, 3, 4);
        Checks.refused("seat(0) behind five", Checks.LIMIT, full, x -> x.seat(0));
        Checks.due("seat(-1) behind five", full.get().seat(-1), Checks.INVALID);
        Checks.refused("seat(-1)", Checks.INVALID, WordsAndPlayersTest::ready, x -> x.seat(-1));
        Checks.refused("seat(1000)", Checks.INVALID, WordsAndPlayersTest::ready, x -> x.seat(1000));
        Checks.refused("seat(1) in a round", Checks.NOT_POSSIBLE, WordsAndPlayersTest::inRound, x -> x.seat(1));
        Checks.due("seat(1000) in a round", inRound().seat(1000), Checks.INVALID);
        GuessingHall crowded = Checks.hall(LIST, 1, 1, 2, 3, 4);
        crowded.begin(1);
        Checks.due("seat(1) in a round behind five", crowded.seat(1), Checks.NOT_POSSIBLE);
        for (int far : Checks.FAR) {
            Checks.due("seat(" + far + ")", ready().seat(far), Checks.INVALID);
        }
    }

    private static void lend() {
        GuessingHall hall = ready();
        Checks.due("lend(0, 1, 10)", hall.lend(0, 1, 10), 0);
        Checks.due("playerOf(1, 0)", hall.playerOf(1, 0), 10);
        Checks.due("lend(1, 2, 3)", hall.lend(1, 2, 3), 7);
        Checks.due("playerOf(2, 0)", hall.playerOf(2, 0), 1002);
        Checks.due("lend(2, 0, 999)", hall.lend(2, 0, 999), 3);
        Checks.due("playerOf(0, 0)", hall.playerOf(0, 0), 999);
        Checks.due("lend(0, 1, 1)", hall.lend(0, 1, 1), 998);
        Checks.refused("lend(0, 0, 1)", Checks.INVALID, WordsAndPlayersTest::ready, x -> x.lend(0, 0, 1));
        Checks.refused("lend(0, 1, 0)", Checks.INVALID, WordsAndPlayersTest::ready, x -> x.lend(0, 1, 0));
        Checks.refused("lend(2, 1, 1000)", Checks.INVALID, WordsAndPlayersTest::ready, x -> x.lend(2, 1, 1000));
        Checks.refused("lend(3, 1, 1)", Checks.INVALID, WordsAndPlayersTest::ready, x -> x.lend(3, 1, 1));
        Checks.refused("lend(0, 3, 1)", Checks.INVALID, WordsAndPlayersTest::ready, x -> x.lend(0, 3, 1));
        Checks.refused("lend(0, 1, 11)", Checks.NOT_POSSIBLE, WordsAndPlayersTest::ready, x -> x.lend(0, 1, 11));
        Checks.due("lend(1, 1, 11)", ready().lend(1, 1, 11), Checks.INVALID);
        for (int far : Checks.FAR) {
            Checks.due("lend(" + far + ", 1, 1)", ready().lend(far, 1, 1), Checks.INVALID);
            Checks.due("lend(0, " + far + ", 1)", ready().lend(0, far, 1), Checks.INVALID);
            Checks.due("lend(0, 1, " + far + ")", ready().lend(0, 1, far), Checks.INVALID);
        }
    }

    private static void lendInARound() {
        GuessingHall hall = inRound();
        Checks.due("lend(2, 0, 8) in a round", hall.lend(2, 0, 8), 990);
        Checks.due("count(4) is the pot still", hall.count(4), 3);
        Checks.due("undo()", hall.undo(), 3);
        Checks.due("playerOf(2, 0)", hall.playerOf(2, 0), 998);
    }

    private static void set() {
        GuessingHall hall = ready();
        Checks.due("set(0, 12)", hall.set(0, 12), 7);
        Checks.due("set(0, 1)", hall.set(0, 1), 12);
        Checks.due("count(15)", hall.count(15), 1);
        Checks.due("count(12)", hall.count(12), 4);
        Checks.refused("set(0, 0)", Checks.INVALID, WordsAndPlayersTest::ready, x -> x.set(0, 0));
        Checks.refused("set(0, 13)", Checks.INVALID, WordsAndPlayersTest::ready, x -> x.set(0, 13));
        Checks.refused("set(1, 7)", Checks.INVALID, WordsAndPlayersTest::ready, x -> x.set(1, 7));
        Checks.refused("set(0, 5) in a round", Checks.NOT_POSSIBLE, WordsAndPlayersTest::inRound, x -> x.set(0, 5));
        Checks.due("set(1, 5) in a round", inRound().set(1, 5), Checks.INVALID);
        for (int far : Checks.FAR) {
            Checks.due("set(" + far + ", 7)", ready().set(far, 7), Checks.INVALID);
            Checks.due("set(0, " + far + ")", ready().set(0, far), Checks.INVALID);
        }
    }

    private static void seed() {
        GuessingHall hall = ready();
        Checks.due("seed(0)", hall.seed(0), 1);
        Checks.due("seed(2147483647)", hall.seed(2147483647), 0);
        Checks.due("count(10)", hall.count(10), 2147483647);
        // (2147483647 * 1103515245 + 12345) modulo 2^31 is 1043980748; 1043980748 / 65536 is 15929; modulo 150 it is 29
        Checks.due("next()", hall.next(), 1);
        Checks.due("begin(1) with an empty purse", hall.begin(1), Checks.NOT_POSSIBLE);
        hall.lend(2, 1, 5);
        Checks.due("begin(1)", hall.begin(1), 2);
        Checks.due("count(10)", hall.count(10), 1043980748);
        Checks.due("seed(5) in a round", hall.seed(5), 1043980748);
        Checks.due("count(10)", hall.count(10), 5);
        Checks.refused("seed(-1)", Checks.INVALID, WordsAndPlayersTest::ready, x -> x.seed(-1));
        Checks.due("seed(lowest)", ready().seed(Integer.MIN_VALUE), Checks.INVALID);
    }
}
