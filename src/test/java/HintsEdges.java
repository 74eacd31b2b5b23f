import java.util.function.Supplier;

/** What is told under Hints, and promise 10. */
final class HintsEdges {
    private static final String ABBAC = "abbac*5;";
    private static final Supplier<GuessingHall> READY = () -> Checks.hall(ABBAC, 10, 20, 30);
    private static final Supplier<GuessingHall> IN_ROUND = () -> Draws.round(ABBAC, 0, 4, 10, 20, 30);
    private static final Supplier<GuessingHall> FIVE = () -> Draws.round(ABBAC, 0, 1, 9, 9, 9, 9, 9);

    private HintsEdges() {
    }

    private static void dueHint(String when, GuessingHall hall, int player, int letter, int whisperer) {
        Checks.due("playerOf(" + player + ", 4) " + when, hall.playerOf(player, 4), letter);
        Checks.due("playerOf(" + player + ", 5) " + when, hall.playerOf(player, 5), whisperer);
    }

    private static void dueNoHint(String when, GuessingHall hall, int player) {
        dueHint(when, hall, player, Checks.NOT_FOUND, Checks.NOT_FOUND);
    }

    @Sentence(promise = 10, under = "Hints",
        value = "A player can whisper a letter that is not guessed yet to a player beside")
    static void aLetterNotGuessedYet() {
        for (int letter : new int[] {0, 25}) {
            Checks.due("whisper(0, 1, " + letter + ")", IN_ROUND.get().whisper(0, 1, letter), 26);
            Supplier<GuessingHall> guessed = Checks.after(IN_ROUND, x -> x.guess(letter));
            Checks.refused("whisper(0, 1, " + letter + ") when it is guessed", Checks.NOT_POSSIBLE, guessed,
                x -> x.whisper(0, 1, letter));
        }
    }

    @Sentence(promise = 10, under = "Hints", value = "in place of the hint that was there for that one")
    static void aHintInPlaceOfAnother() {
        GuessingHall hall = IN_ROUND.get();
        hall.whisper(0, 1, 3);
        hall.whisper(2, 1, 4);
        dueHint("from the other side", hall, 1, 4, 2);
        hall.whisper(0, 1, 4);
        dueHint("of the same letter", hall, 1, 4, 0);
        hall.whisper(1, 2, 5);
        hall.whisper(1, 0, 6);
        dueHint("of another one", hall, 1, 4, 0);
        dueHint("of the last one", hall, 2, 5, 1);
        dueHint("of the first one", hall, 0, 6, 1);
    }

    @Sentence(promise = {8, 9}, under = "Hints",
        value = "When the latter guesses a letter, the hint is gone (not by telling a word)")
    static void aHintGoesByAGuess() {
        for (int letter : new int[] {0, 1, 25}) {
            GuessingHall hall = IN_ROUND.get();
            hall.whisper(1, 0, 0);
            hall.whisper(0, 1, 0);
            hall.guess(letter);
            dueNoHint("behind guess(" + letter + ")", hall, 0);
            dueHint("behind another's guess(" + letter + ")", hall, 1, 0, 0);
        }
        GuessingHall hall = Draws.round("ab*1;cd*1;", 0, 1, 9, 9);
        hall.whisper(1, 0, 0);
        hall.tell(1);
        dueHint("behind tell(1)", hall, 0, 0, 1);
    }

    /** A round of three, who pay so much, in a word of so many "a" and a "z"; player 1 hints "a" to player 0. */
    private static void dueShares(int stake, int places, int ofTheGuesser, int ofTheWhisperer) {
        GuessingHall hall = Draws.round("aaaaaaa".substring(0, places) + "z*1;", 0, stake, 50, 50, 50);
        hall.whisper(1, 0, 0);
        Checks.due("guess(0)", hall.guess(0), places);
        String when = " of " + places + " places and a pot of " + 3 * stake;
        Checks.due("playerOf(0, 0)" + when, hall.playerOf(0, 0), 50 - stake + ofTheGuesser);
        Checks.due("playerOf(1, 0)" + when, hall.playerOf(1, 0), 50 - stake + ofTheWhisperer);
        Checks.due("playerOf(2, 0)" + when, hall.playerOf(2, 0), 50 - stake);
        Checks.due("count(4)" + when, hall.count(4), 3 * stake - ofTheGuesser - ofTheWhisperer);
    }

    @Sentence(promise = 8, under = "Hints",
        value = "half of the coins that come out of the pot for its places (rounded down) go to the one who whispered")
    static void halfOfTheCoins() {
        dueShares(5, 1, 1, 0);
        dueShares(5, 2, 1, 1);
        dueShares(5, 3, 2, 1);
        dueShares(5, 7, 4, 3);
        dueShares(1, 7, 2, 1);
        dueShares(2, 7, 3, 3);
        dueShares(1, 3, 2, 1);
    }

    @Sentence(promise = 8, under = "Hints", value = "if it was the letter that is guessed, and the letter is in the word")
    static void onlyOfTheHintedLetter() {
        GuessingHall other = IN_ROUND.get();
        other.whisper(1, 0, 1);
        other.guess(0);
        Checks.due("playerOf(0, 0) by another letter", other.playerOf(0, 0), 8);
        Checks.due("playerOf(1, 0) by another letter", other.playerOf(1, 0), 16);
        other.guess(1);
        Checks.due("playerOf(0, 0): the hint is gone", other.playerOf(0, 0), 10);
        Checks.due("playerOf(1, 0): the hint is gone", other.playerOf(1, 0), 16);
        GuessingHall wrong = IN_ROUND.get();
        wrong.whisper(1, 0, 25);
        wrong.guess(25);
        Checks.due("playerOf(0, 0) by a miss", wrong.playerOf(0, 0), 6);
        Checks.due("playerOf(1, 0) by a miss", wrong.playerOf(1, 0), 16);
        Checks.due("count(4) by a miss", wrong.count(4), 12);
    }

    @Sentence(promise = 8, under = "Hints", value = "(Not of the rest of the pot.)")
    static void nothingOfTheRest() {
        GuessingHall hall = Draws.round("zz*1;", 0, 10, 10, 10);
        hall.whisper(1, 0, 25);
        hall.guess(25);
        Checks.due("playerOf(0, 0)", hall.playerOf(0, 0), 19);
        Checks.due("playerOf(1, 0)", hall.playerOf(1, 0), 1);
        GuessingHall told = Draws.round("zz*1;", 0, 10, 10, 10);
        told.whisper(1, 0, 25);
        told.tell(0);
        Checks.due("playerOf(0, 0) by tell(0)", told.playerOf(0, 0), 20);
        Checks.due("playerOf(1, 0) by tell(0)", told.playerOf(1, 0), 0);
        GuessingHall poor = Draws.round("abbbc*1;", 0, 1, 5, 5);
        poor.guess(0);
        poor.whisper(1, 0, 1);
        poor.guess(1);
        Checks.due("playerOf(1, 0): half of a pot of 1", poor.playerOf(1, 0), 4);
        poor.whisper(1, 0, 2);
        poor.guess(2);
        Checks.due("playerOf(0, 0): half of a pot of 0", poor.playerOf(0, 0), 6);
        Checks.due("playerOf(1, 0): half of a pot of 0", poor.playerOf(1, 0), 4);
    }

    // ---- Promise 10: whisper

    @Sentence(promise = 10, value = "`player`: number of the player who whispers")
    static void whisperOfFirstAndLast() {
        GuessingHall hall = FIVE.get();
        Checks.due("whisper(0, 1, 7)", hall.whisper(0, 1, 7), 26);
        Checks.due("whisper(4, 3, 8)", hall.whisper(4, 3, 8), 26);
        dueHint("from the first one", hall, 1, 7, 0);
        dueHint("from the last one", hall, 3, 8, 4);
    }

    @Sentence(promise = 10, value = "`to`: number of a player beside")
    static void whisperToFirstAndLast() {
        GuessingHall hall = FIVE.get();
        Checks.due("whisper(1, 0, 7)", hall.whisper(1, 0, 7), 26);
        Checks.due("whisper(3, 4, 8)", hall.whisper(3, 4, 8), 26);
        dueHint("for the first one", hall, 0, 7, 1);
        dueHint("for the last one", hall, 4, 8, 3);
    }

    @Sentence(promise = 10, value = "`letter`: 0 to 25")
    static void whisperOfLettersAtTheirEnds() {
        GuessingHall hall = IN_ROUND.get();
        hall.whisper(0, 1, 0);
        dueHint("of a", hall, 1, 0, 0);
        hall.whisper(0, 1, 25);
        dueHint("of z", hall, 1, 25, 0);
    }

    @Sentence(promise = 10, value = "Returns the letter of the hint that was there for that one, 26 if there was none")
    static void whisperWhatWasThere() {
        GuessingHall hall = IN_ROUND.get();
        Checks.due("whisper(0, 1, 25) behind none", hall.whisper(0, 1, 25), 26);
        Checks.due("whisper(2, 1, 0) behind z", hall.whisper(2, 1, 0), 25);
        Checks.due("whisper(2, 1, 0) behind a", hall.whisper(2, 1, 0), 0);
        Checks.due("whisper(1, 0, 3) for another one", hall.whisper(1, 0, 3), 26);
        hall.guess(24);
        Checks.due("whisper(1, 0, 3) behind a guess", hall.whisper(1, 0, 3), 26);
        hall.tell(0);
        hall.begin(1);
        Checks.due("whisper(1, 0, 3) in the next round", hall.whisper(1, 0, 3), 26);
    }

    @Sentence(promise = 10, value = "INVALID_ARGUMENT if an argument is out of range")
    static void whisperOutOfRange() {
        Checks.refused("whisper(-1, 0, 1)", Checks.INVALID, IN_ROUND, x -> x.whisper(-1, 0, 1));
        Checks.refused("whisper(3, 2, 1) of 3", Checks.INVALID, IN_ROUND, x -> x.whisper(3, 2, 1));
        Checks.refused("whisper(0, -1, 1)", Checks.INVALID, IN_ROUND, x -> x.whisper(0, -1, 1));
        Checks.refused("whisper(2, 3, 1) of 3", Checks.INVALID, IN_ROUND, x -> x.whisper(2, 3, 1));
        Checks.refused("whisper(4, 5, 1) of 5", Checks.INVALID, FIVE, x -> x.whisper(4, 5, 1));
        Checks.refused("whisper(5, 4, 1) of 5", Checks.INVALID, FIVE, x -> x.whisper(5, 4, 1));
        Checks.refused("whisper(0, 1, -1)", Checks.INVALID, IN_ROUND, x -> x.whisper(0, 1, -1));
        Checks.refused("whisper(0, 1, 26)", Checks.INVALID, IN_ROUND, x -> x.whisper(0, 1, 26));
        for (int far : Checks.FAR) {
            Checks.refused("whisper(" + far + ", 1, 1)", Checks.INVALID, IN_ROUND, x -> x.whisper(far, 1, 1));
            Checks.refused("whisper(0, " + far + ", 1)", Checks.INVALID, IN_ROUND, x -> x.whisper(0, far, 1));
            Checks.refused("whisper(0, 1, " + far + ")", Checks.INVALID, IN_ROUND, x -> x.whisper(0, 1, far));
        }
    }

    @Sentence(promise = 10, value = "NOT_POSSIBLE without a round")
    static void whisperWithoutARound() {
        Checks.refused("whisper(0, 1, 0) before one", Checks.NOT_POSSIBLE, READY, x -> x.whisper(0, 1, 0));
        Supplier<GuessingHall> over = Checks.after(IN_ROUND, x -> x.tell(0));
        Checks.refused("whisper(0, 1, 0) behind one", Checks.NOT_POSSIBLE, over, x -> x.whisper(0, 1, 0));
    }

    @Sentence(promise = 10, value = "if they do not sit beside")
    static void whisperNotBeside() {
        Checks.refused("whisper(0, 2, 1)", Checks.NOT_POSSIBLE, FIVE, x -> x.whisper(0, 2, 1));
        Checks.refused("whisper(0, 4, 1): it does not go round", Checks.NOT_POSSIBLE, FIVE, x -> x.whisper(0, 4, 1));
        Checks.refused("whisper(4, 0, 1): it does not go round", Checks.NOT_POSSIBLE, FIVE, x -> x.whisper(4, 0, 1));
        for (int player = 0; player < 5; player++) {
            int one = player;
            Checks.refused("whisper(" + one + ", " + one + ", 1)", Checks.NOT_POSSIBLE, FIVE,
                x -> x.whisper(one, one, 1));
        }
    }

    @Sentence(promise = 10, value = "or the letter is guessed")
    static void whisperOfAGuessedLetter() {
        for (int letter : new int[] {0, 1, 24, 25}) {
            Supplier<GuessingHall> guessed = Checks.after(IN_ROUND, x -> x.guess(letter));
            Checks.refused("whisper(1, 2, " + letter + ")", Checks.NOT_POSSIBLE, guessed, x -> x.whisper(1, 2, letter));
            Checks.due("whisper(1, 2, 12)", guessed.get().whisper(1, 2, 12), 26);
        }
    }
}
