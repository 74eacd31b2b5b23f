import java.util.function.Supplier;

/** Promises 7 to 10: begin, guess, tell, whisper. */
public final class RoundsTest {
    /** Just one word, so that every draw takes it: a at 0 and 3, b at 1 and 2, c at 4. */
    private static final String ABBAC = "abbac*5;";

    public static void main(String[] args) {
        begin();
        draws();
        starters();
        guess();
        pot();
        lastMiss();
        tell();
        whisper();
        shares();
        hintsGo();
        Checks.finish();
    }

    private static GuessingHall inRound(int stake, int... purses) {
        GuessingHall hall = Checks.hall(ABBAC, purses);
        Checks.due("begin(" + stake + ")", hall.begin(stake), 5);
        return hall;
    }

    private static GuessingHall three() {
        return inRound(4, 10, 20, 30);
    }

    private static void begin() {
        GuessingHall hall = three();
        int[] purses = {6, 16, 26};
        for (int player = 0; player < 3; player++) {
            Checks.due("purse behind begin(4)", hall.playerOf(player, 0), purses[player]);
        }
        int[] counts = {1, 3, 1, 0, 12, 0, 0, 0, 1, 0};
        for (int what = 0; what < counts.length; what++) {
            Checks.due("count(" + what + ") behind begin(4)", hall.count(what), counts[what]);
        }
        Supplier<GuessingHall> ready = () -> Checks.hall(ABBAC, 50, 49);
        Checks.due("begin(49)", ready.get().begin(49), 5);
        Checks.refused("begin(50)", Checks.NOT_POSSIBLE, ready, x -> x.begin(50));
        Checks.refused("begin(0)", Checks.INVALID, ready, x -> x.begin(0));
        Checks.refused("begin(51)", Checks.INVALID, ready, x -> x.begin(51));
        Checks.due("begin(50) of those who have 50", Checks.hall(ABBAC, 50, 50).begin(50), 5);
        Checks.refused("begin(1) in a round", Checks.NOT_POSSIBLE, RoundsTest::three, x -> x.begin(1));
        Checks.due("begin(51) in a round", three().begin(51), Checks.INVALID);
        Checks.refused("begin(1) without players", Checks.NOT_POSSIBLE, () -> Checks.hall(ABBAC), x -> x.begin(1));
        Checks.refused("begin(1) without words", Checks.NOT_POSSIBLE, () -> Checks.hall("", 9), x -> x.begin(1));
        Checks.due("begin(0) without words", Checks.hall("", 9).begin(0), Checks.INVALID);
        for (int far : Checks.FAR) {
            Checks.due("begin(" + far + ")", ready.get().begin(far), Checks.INVALID);
        }
    }

    /** Draws are reckoned here by long numbers, from the words of the document. */
    private static void draws() {
        int[] weights = {3, 1, 99, 20};
        for (int seed : new int[] {0, 1, 65535, 65536, 123456789, 2147483647}) {
            GuessingHall hall = Checks.hall("abc*3;cd*1;efgh*99;ijklm*20;", 999);
            hall.seed(seed);
            int[] drawn = new int[4];
            long number = seed;
            for (int round = 0; round < 12; round++) {
                number = (number * 1103515245L + 12345L) % 2147483648L;
                int due = wordAt(number / 65536 % 123, weights);
                Checks.due("next() of seed " + seed, hall.next(), due);
                Checks.due("begin(1) of seed " + seed, hall.begin(1), new int[] {3, 2, 4, 5}[due]);
                drawn[due]++;
                Checks.due("count(10) of seed " + seed, hall.count(10), number);
                Checks.due("wordOf(due, 3) of seed " + seed, hall.wordOf(due, 3), drawn[due]);
                Checks.due("tell(due) of seed " + seed, hall.tell(due), 1);
                Checks.due("count(8) of seed " + seed, hall.count(8), round + 1);
            }
        }
    }

    private static int wordAt(long rest, int[] weights) {
        int word = 0;
        long above = weights[0];
        while (above <= rest) {
            word++;
            above += weights[word];
        }
        return word;
    }

    private static void starters() {
        GuessingHall hall = Checks.hall(ABBAC, 50, 50, 50);
        hall.set(0, 1);
        int[] due = {0, 1, 2, 0, 1};
        for (int round = 0; round < due.length; round++) {
            hall.begin(1);
            Checks.due("who begins round " + round, hall.count(3), due[round]);
            hall.guess(25);
        }
        hall.seat(5);
        hall.seat(5);
        int[] dueOfFive = {2, 3, 4, 0};
        for (int starter : dueOfFive) {
            hall.begin(1);
            Checks.due("who begins with five", hall.count(3), starter);
            hall.guess(0);
            hall.tell(0);
        }
        hall.begin(1);
        hall.undo();
        hall.begin(1);
        Checks.due("who begins behind undo()", hall.count(3), 1);
    }

    private static void guess() {
        GuessingHall hall = three();
        Checks.due("guess(0)", hall.guess(0), 2);
        Checks.due("guess(0) again", hall.guess(0), Checks.NOT_POSSIBLE);
        Checks.due("count(3) has the turn still", hall.count(3), 0);
        Checks.due("count(4)", hall.count(4), 10);
        Checks.due("count(7)", hall.count(7), 2);
        Checks.due("playerOf(0, 0)", hall.playerOf(0, 0), 8);
        Checks.due("playerOf(0, 2)", hall.playerOf(0, 2), 1);
        Checks.due("guess(25)", hall.guess(25), 0);
        Checks.due("guess(25) again", hall.guess(25), Checks.NOT_POSSIBLE);
        Checks.due("count(3)", hall.count(3), 1);
        Checks.due("count(5)", hall.count(5), 1);
        Checks.due("playerOf(0, 3)", hall.playerOf(0, 3), 1);
        Checks.due("count(6)", hall.count(6), 1 << 25 | 1);
        Checks.due("guess(2)", hall.guess(2), 1);
        Checks.due("guess(24)", hall.guess(24), 0);
        Checks.due("guess(23)", hall.guess(23), 0);
        Checks.due("count(3) is round the bench", hall.count(3), 0);
        Checks.due("guess(1), the last letter", hall.guess(1), 2);
        Checks.due("playerOf(0, 0) with the pot", hall.playerOf(0, 0), 6 + 2 + 2 + 7);
        Checks.due("playerOf(1, 0)", hall.playerOf(1, 0), 17);
        Checks.due("playerOf(0, 1)", hall.playerOf(0, 1), 1);
        Checks.due("playerOf(0, 2)", hall.playerOf(0, 2), 2);
        Checks.due("count(2)", hall.count(2), 0);
        Checks.due("count(9)", hall.count(9), 0);
        Checks.due("round(0, 1)", hall.round(0, 1), 0);
        Checks.due("round(0, 2)", hall.round(0, 2), 3);
        Checks.refused("guess(0) without a round", Checks.NOT_POSSIBLE, () -> Checks.hall(ABBAC, 5), x -> x.guess(0));
        Checks.due("guess(26) without a round", Checks.hall(ABBAC, 5).guess(26), Checks.INVALID);
        Checks.refused("guess(-1)", Checks.INVALID, RoundsTest::three, x -> x.guess(-1));
        Checks.refused("guess(26)", Checks.INVALID, RoundsTest::three, x -> x.guess(26));
        Checks.refused("guess(0) again", Checks.NOT_POSSIBLE, Checks.after(RoundsTest::three, x -> x.guess(0)),
            x -> x.guess(0));
        for (int far : Checks.FAR) {
            Checks.due("guess(" + far + ")", three().guess(far), Checks.INVALID);
        }
    }

    private static void pot() {
        GuessingHall hall = inRound(1, 5);
        Checks.due("guess(0) of a pot of one", hall.guess(0), 2);
        Checks.due("count(4)", hall.count(4), 0);
        Checks.due("playerOf(0, 0)", hall.playerOf(0, 0), 5);
        Checks.due("guess(1) of an empty pot", hall.guess(1), 2);
        Checks.due("playerOf(0, 0)", hall.playerOf(0, 0), 5);
        Checks.due("guess(2)", hall.guess(2), 1);
        Checks.due("playerOf(0, 0)", hall.playerOf(0, 0), 5);
        Checks.due("playerOf(0, 1)", hall.playerOf(0, 1), 1);
        Checks.due("playerOf(0, 2)", hall.playerOf(0, 2), 3);
    }

    private static void lastMiss() {
        for (int limit = 1; limit <= 12; limit++) {
            GuessingHall hall = Checks.hall(ABBAC, 50, 50);
            hall.set(0, limit);
            hall.begin(3);
            hall.guess(1);
            for (int miss = 0; miss < limit; miss++) {
                Checks.due("count(2) at miss " + miss + " of " + limit, hall.count(2), 1);
                Checks.due("count(3) at miss " + miss + " of " + limit, hall.count(3), miss % 2);
                Checks.due("guess of no letter", hall.guess(10 + miss), 0);
            }
            Checks.due("count(2) behind " + limit, hall.count(2), 0);
            Checks.due("count(9) behind " + limit, hall.count(9), 4);
            Checks.due("round(0, 0)", hall.round(0, 0), 0);
            Checks.due("round(0, 1)", hall.round(0, 1), 5);
            Checks.due("round(0, 2)", hall.round(0, 2), limit);
            Checks.due("round(0, 3)", hall.round(0, 3), 3);
            Checks.due("playerOf(0, 3)", hall.playerOf(0, 3), (limit + 1) / 2);
            Checks.due("playerOf(1, 3)", hall.playerOf(1, 3), limit / 2);
            Checks.due("playerOf(1, 1)", hall.playerOf(1, 1), 0);
        }
    }

    private static GuessingHall twoWords() {
        GuessingHall hall = Checks.hall("ab*1;cde*99;", 10, 10);
        hall.set(0, 3);
        Checks.due("begin(2)", hall.begin(2), 3);
        return hall;
    }

    private static void tell() {
        GuessingHall hall = twoWords();
        Checks.due("tell(0), which does not fit", hall.tell(0), 0);
        Checks.due("count(3)", hall.count(3), 1);
        Checks.due("count(5)", hall.count(5), 1);
        Checks.due("count(6)", hall.count(6), 0);
        Checks.due("playerOf(0, 3)", hall.playerOf(0, 3), 1);
        Checks.due("tell(1)", hall.tell(1), 1);
        Checks.due("playerOf(1, 0)", hall.playerOf(1, 0), 12);
        Checks.due("playerOf(1, 1)", hall.playerOf(1, 1), 1);
        Checks.due("playerOf(1, 2)", hall.playerOf(1, 2), 0);
        Checks.due("round(0, 0)", hall.round(0, 0), 1);
        Checks.due("round(0, 1)", hall.round(0, 1), 1);
        Checks.due("round(0, 2)", hall.round(0, 2), 1);
        Checks.due("tell(1) behind the round", hall.tell(1), Checks.NOT_POSSIBLE);
        hall = twoWords();
        hall.tell(0);
        hall.guess(25);
        Checks.due("tell(0), the last miss", hall.tell(0), 0);
        Checks.due("count(9)", hall.count(9), 4);
        Checks.due("round(0, 1)", hall.round(0, 1), 5);
        Checks.refused("tell(0) without a round", Checks.NOT_POSSIBLE, () -> Checks.hall(ABBAC, 5), x -> x.tell(0));
        Checks.due("tell(1) without a round", Checks.hall(ABBAC, 5).tell(1), Checks.INVALID);
        Checks.refused("tell(2)", Checks.INVALID, RoundsTest::twoWords, x -> x.tell(2));
        Checks.refused("tell(-1)", Checks.INVALID, RoundsTest::twoWords, x -> x.tell(-1));
        for (int far : Checks.FAR) {
            Checks.due("tell(" + far + ")", twoWords().tell(far), Checks.INVALID);
        }
    }

    private static void whisper() {
        GuessingHall hall = three();
        Checks.due("whisper(0, 1, 25)", hall.whisper(0, 1, 25), 26);
        Checks.due("playerOf(1, 4)", hall.playerOf(1, 4), 25);
        Checks.due("playerOf(1, 5)", hall.playerOf(1, 5), 0);
        Checks.due("whisper(2, 1, 0)", hall.whisper(2, 1, 0), 25);
        Checks.due("playerOf(1, 4)", hall.playerOf(1, 4), 0);
        Checks.due("playerOf(1, 5)", hall.playerOf(1, 5), 2);
        Checks.due("whisper(2, 1, 0) once more", hall.whisper(2, 1, 0), 0);
        Checks.due("playerOf(0, 4)", hall.playerOf(0, 4), Checks.NOT_FOUND);
        Checks.due("playerOf(2, 5)", hall.playerOf(2, 5), Checks.NOT_FOUND);
        Checks.due("whisper(1, 0, 7)", hall.whisper(1, 0, 7), 26);
        Checks.refused("whisper(0, 2, 1)", Checks.NOT_POSSIBLE, RoundsTest::three, x -> x.whisper(0, 2, 1));
        Checks.refused("whisper(2, 0, 1)", Checks.NOT_POSSIBLE, RoundsTest::three, x -> x.whisper(2, 0, 1));
        Checks.refused("whisper(1, 1, 1)", Checks.NOT_POSSIBLE, RoundsTest::three, x -> x.whisper(1, 1, 1));
        Checks.refused("whisper(0, 1, 26)", Checks.INVALID, RoundsTest::three, x -> x.whisper(0, 1, 26));
        Checks.refused("whisper(0, 1, -1)", Checks.INVALID, RoundsTest::three, x -> x.whisper(0, 1, -1));
        Checks.refused("whisper(2, 3, 1)", Checks.INVALID, RoundsTest::three, x -> x.whisper(2, 3, 1));
        Checks.refused("whisper(3, 2, 1)", Checks.INVALID, RoundsTest::three, x -> x.whisper(3, 2, 1));
        Checks.refused("whisper(0, 1, 9), which is guessed", Checks.NOT_POSSIBLE,
            Checks.after(RoundsTest::three, x -> x.guess(9)), x -> x.whisper(0, 1, 9));
        Supplier<GuessingHall> still = () -> Checks.hall(ABBAC, 5, 5);
        Checks.refused("whisper(0, 1, 0) without a round", Checks.NOT_POSSIBLE, still, x -> x.whisper(0, 1, 0));
        Checks.due("whisper(0, 2, 0) without a round", still.get().whisper(0, 2, 0), Checks.INVALID);
        for (int far : Checks.FAR) {
            Checks.due("whisper(" + far + ", 1, 1)", three().whisper(far, 1, 1), Checks.INVALID);
            Checks.due("whisper(0, " + far + ", 1)", three().whisper(0, far, 1), Checks.INVALID);
            Checks.due("whisper(0, 1, " + far + ")", three().whisper(0, 1, far), Checks.INVALID);
        }
    }

    private static void shares() {
        GuessingHall hall = Checks.hall("aaabbbc*5;", 10, 10);
        hall.begin(5);
        hall.whisper(1, 0, 0);
        Checks.due("guess(0) with its hint", hall.guess(0), 3);
        Checks.due("playerOf(0, 0): two of three coins", hall.playerOf(0, 0), 7);
        Checks.due("playerOf(1, 0): one of three coins", hall.playerOf(1, 0), 6);
        hall.whisper(1, 0, 2);
        Checks.due("guess(2) with its hint", hall.guess(2), 1);
        Checks.due("playerOf(0, 0): half of one is none", hall.playerOf(0, 0), 8);
        Checks.due("playerOf(1, 0): half of one is none", hall.playerOf(1, 0), 6);
        hall.whisper(1, 0, 1);
        Checks.due("guess(1) with its hint wins", hall.guess(1), 3);
        Checks.due("playerOf(0, 0): and the rest of the pot", hall.playerOf(0, 0), 8 + 2 + 3);
        Checks.due("playerOf(1, 0): nothing of the rest", hall.playerOf(1, 0), 7);

        hall = Checks.hall("aaaabc*5;", 10, 10);
        hall.begin(1);
        hall.whisper(1, 0, 0);
        hall.guess(0);
        Checks.due("playerOf(0, 0): half of what there is", hall.playerOf(0, 0), 10);
        Checks.due("playerOf(1, 0): half of what there is", hall.playerOf(1, 0), 10);

        hall = Checks.hall("aaaabc*5;", 10, 10);
        hall.begin(5);
        hall.whisper(1, 0, 1);
        hall.guess(0);
        Checks.due("playerOf(0, 0): the hint was another", hall.playerOf(0, 0), 9);
        Checks.due("playerOf(1, 0): the hint was another", hall.playerOf(1, 0), 5);
        Checks.due("guess(1), whose hint is gone", hall.guess(1), 1);
        Checks.due("playerOf(0, 0)", hall.playerOf(0, 0), 10);
    }

    private static void hintsGo() {
        GuessingHall hall = three();
        hall.whisper(1, 0, 25);
        hall.whisper(0, 1, 0);
        hall.whisper(1, 2, 24);
        Checks.due("guess(25)", hall.guess(25), 0);
        Checks.due("playerOf(0, 4): gone by a miss", hall.playerOf(0, 4), Checks.NOT_FOUND);
        Checks.due("playerOf(0, 5): gone by a miss", hall.playerOf(0, 5), Checks.NOT_FOUND);
        Checks.due("playerOf(1, 4): stays", hall.playerOf(1, 4), 0);
        hall.guess(1);
        Checks.due("playerOf(1, 4): gone by another letter", hall.playerOf(1, 4), Checks.NOT_FOUND);
        Checks.due("playerOf(2, 4): stays", hall.playerOf(2, 4), 24);
        hall.whisper(2, 1, 23);
        hall.tell(0);
        for (int player = 0; player < 3; player++) {
            Checks.due("playerOf(" + player + ", 4) behind the round", hall.playerOf(player, 4), Checks.NOT_FOUND);
            Checks.due("playerOf(" + player + ", 5) behind the round", hall.playerOf(player, 5), Checks.NOT_FOUND);
        }
        hall.begin(1);
        for (int player = 0; player < 3; player++) {
            Checks.due("playerOf(" + player + ", 4) of the next round", hall.playerOf(player, 4), Checks.NOT_FOUND);
        }
        hall = twoWords();
        hall.whisper(1, 0, 2);
        hall.tell(0);
        Checks.due("playerOf(0, 4): not gone by telling", hall.playerOf(0, 4), 2);
        hall.guess(2);
        Checks.due("playerOf(0, 4): another guessed its letter", hall.playerOf(0, 4), 2);
        Checks.due("whisper(1, 0, 3)", hall.whisper(1, 0, 3), 2);
    }
}
