import java.util.function.Supplier;

/** What is told under Rounds, and promises 7 to 9. */
final class RoundsEdges {
    /** Just one word, so that every draw takes it: a at 0 and 3, b at 1 and 2, c at 4. */
    private static final String ABBAC = "abbac*5;";
    private static final Supplier<GuessingHall> READY = () -> Checks.hall(ABBAC, 50, 50);
    private static final Supplier<GuessingHall> IN_ROUND = () -> inRound(4, 10, 20, 30);

    private RoundsEdges() {
    }

    private static GuessingHall inRound(int stake, int... purses) {
        return Draws.round(ABBAC, 0, stake, purses);
    }

    private static void duePurses(String when, GuessingHall hall, int... purses) {
        for (int player = 0; player < purses.length; player++) {
            Checks.due("playerOf(" + player + ", 0) " + when, hall.playerOf(player, 0), purses[player]);
        }
    }

    /** So many misses in a row by letters that ABBAC has not. */
    private static void miss(GuessingHall hall, int misses) {
        for (int letter = 10; letter < 10 + misses; letter++) {
            Checks.due("guess(" + letter + ")", hall.guess(letter), 0);
        }
    }

    // ---- Rounds

    @Sentence(promise = 7, under = "Rounds",
        value = "A round begins with a stake (1 to 50), which each player pays into the pot")
    static void stakesAtTheirEnds() {
        GuessingHall hall = inRound(50, 50, 51, 99, 50, 999);
        duePurses("behind begin(50)", hall, 0, 1, 49, 0, 949);
        Checks.due("count(4) behind begin(50)", hall.count(4), 250);
        hall = inRound(1, 1, 2);
        duePurses("behind begin(1)", hall, 0, 1);
        Checks.due("count(4) behind begin(1)", hall.count(4), 2);
        Checks.due("count(4) of one player", inRound(1, 1).count(4), 1);
        Checks.due("begin(0)", READY.get().begin(0), Checks.INVALID);
        Checks.due("begin(51)", Checks.hall(ABBAC, 60).begin(51), Checks.INVALID);
    }

    /** The one who begins, over so many rounds, each of which is won by the player behind that one. */
    private static void dueStarters(GuessingHall hall, int... starters) {
        for (int starter : starters) {
            hall.begin(1);
            Checks.due("count(3) of round " + hall.count(8), hall.count(3), starter);
            hall.guess(25);
            hall.tell(0);
        }
    }

    @Sentence(promise = 7, under = "Rounds",
        value = "the player whose turn it is is the one behind the player who began the last round")
    static void theNextBegins() {
        dueStarters(Checks.hall(ABBAC, 50, 50, 50), 0, 1, 2);
        GuessingHall hall = Checks.hall(ABBAC, 50, 50, 50, 50);
        hall.begin(1);
        miss(hall, 3);
        hall.tell(0);
        Checks.due("round(0, 1): the last one won", hall.round(0, 1), 3);
        hall.begin(1);
        Checks.due("count(3)", hall.count(3), 1);
    }

    @Sentence(promise = 7, under = "Rounds",
        value = "(the first one behind the last one; the player 0 in the first round)")
    static void theBenchWrapsRound() {
        dueStarters(Checks.hall(ABBAC, 50), 0, 0, 0);
        dueStarters(Checks.hall(ABBAC, 50, 50), 0, 1, 0, 1);
        dueStarters(Checks.hall(ABBAC, 50, 50, 50, 50, 50), 0, 1, 2, 3, 4, 0, 1);
        GuessingHall hall = Checks.hall(ABBAC, 50, 50);
        dueStarters(hall, 0, 1);
        hall.seat(50);
        dueStarters(hall, 2, 0);
        hall = READY.get();
        hall.begin(1);
        hall.undo();
        dueStarters(hall, 0, 1);
    }

    @Sentence(promise = 7, under = "Rounds", value = "No letter is guessed, no miss is counted, no hint is there.")
    static void aRoundBeginsEmpty() {
        GuessingHall hall = READY.get();
        hall.begin(1);
        hall.whisper(0, 1, 20);
        hall.whisper(1, 0, 21);
        hall.guess(0);
        hall.guess(25);
        hall.tell(0);
        hall.begin(1);
        for (int what = 5; what <= 7; what++) {
            Checks.due("count(" + what + ")", hall.count(what), 0);
        }
        for (int player = 0; player < 2; player++) {
            Checks.due("playerOf(" + player + ", 4)", hall.playerOf(player, 4), Checks.NOT_FOUND);
            Checks.due("playerOf(" + player + ", 5)", hall.playerOf(player, 5), Checks.NOT_FOUND);
        }
        for (int place = 0; place < 5; place++) {
            Checks.due("open(" + place + ")", hall.open(place), 26);
        }
        Checks.due("guess(25)", hall.guess(25), 0);
        Checks.due("guess(0)", hall.guess(0), 2);
    }

    @Sentence(promise = 8, under = "Rounds", value = "A letter that is guessed is guessed once a round.")
    static void aLetterOnceARound() {
        for (int letter : new int[] {0, 25}) {
            Supplier<GuessingHall> guessed = Checks.after(IN_ROUND, x -> x.guess(letter));
            Checks.refused("guess(" + letter + ") again", Checks.NOT_POSSIBLE, guessed, x -> x.guess(letter));
            GuessingHall hall = guessed.get();
            hall.tell(0);
            hall.begin(1);
            Checks.due("guess(" + letter + ") in the next round", hall.guess(letter), letter == 0 ? 2 : 0);
        }
    }

    @Sentence(promise = {8, 13}, under = "Rounds", value = "If it is in the word, all its places are open")
    static void firstAndLastPlacesOpen() {
        String[] words = {"abcdefga*1;", "aaaaaaab*1;", "ab*1;", "ba*1;"};
        int[][] opened = {{0, 7}, {0, 1, 2, 3, 4, 5, 6}, {0}, {1}};
        for (int index = 0; index < words.length; index++) {
            GuessingHall hall = Draws.round(words[index], 0, 1, 5);
            Checks.due("guess(0) of " + words[index], hall.guess(0), opened[index].length);
            int due = 0;
            for (int place = 0; place < 8; place++) {
                boolean isOpen = due < opened[index].length && opened[index][due] == place;
                due += isOpen ? 1 : 0;
                int closed = place < hall.wordOf(0, 0) ? 26 : Checks.NOT_FOUND;
                Checks.due("open(" + place + ") of " + words[index], hall.open(place), isOpen ? 0 : closed);
            }
            Checks.due("count(7) of " + words[index], hall.count(7), due);
        }
    }

    @Sentence(promise = 8, under = "Rounds",
        value = "the player gets a coin for each of them out of the pot (as far as there are any)")
    static void coinsAsFarAsThereAreAny() {
        GuessingHall hall = inRound(1, 5);
        hall.guess(0);
        duePurses("behind 2 places of a pot of 1", hall, 5);
        Checks.due("count(4)", hall.count(4), 0);
        hall.guess(1);
        duePurses("behind 2 places of a pot of 0", hall, 5);
        Checks.due("count(4)", hall.count(4), 0);
        hall = inRound(2, 5);
        hall.guess(0);
        duePurses("behind 2 places of a pot of 2", hall, 5);
        Checks.due("count(4)", hall.count(4), 0);
        hall = inRound(3, 5);
        hall.guess(0);
        duePurses("behind 2 places of a pot of 3", hall, 4);
        Checks.due("count(4)", hall.count(4), 1);
    }

    @Sentence(promise = 8, under = "Rounds", value = "and has the turn still")
    static void theTurnStays() {
        GuessingHall hall = inRound(4, 10, 20);
        hall.guess(0);
        Checks.due("count(3)", hall.count(3), 0);
        hall.guess(25);
        hall.guess(1);
        Checks.due("count(3) of the last one", hall.count(3), 1);
    }

    @Sentence(promise = 8, under = "Rounds", value = "Otherwise it is a miss, and the turn passes to the next player.")
    static void theTurnPasses() {
        GuessingHall hall = IN_ROUND.get();
        int[] turns = {1, 2, 0, 1};
        for (int misses = 1; misses <= turns.length; misses++) {
            hall.guess(9 + misses);
            Checks.due("count(3) behind miss " + misses, hall.count(3), turns[misses - 1]);
            Checks.due("count(5) behind miss " + misses, hall.count(5), misses);
        }
        int[] missesOf = {2, 1, 1};
        for (int player = 0; player < 3; player++) {
            Checks.due("playerOf(" + player + ", 3)", hall.playerOf(player, 3), missesOf[player]);
        }
        GuessingHall alone = inRound(1, 5);
        alone.guess(25);
        Checks.due("count(3) of one alone", alone.count(3), 0);
    }

    @Sentence(promise = 8, under = "Rounds",
        value = "If all places are open, the player has won, and gets the rest of the pot.")
    static void theLastPlaceWins() {
        GuessingHall hall = inRound(10, 10, 20);
        hall.guess(0);
        hall.guess(1);
        Checks.due("count(2) with one place left", hall.count(2), 1);
        Checks.due("playerOf(0, 1) with one place left", hall.playerOf(0, 1), 0);
        Checks.due("guess(2)", hall.guess(2), 1);
        Checks.due("count(2)", hall.count(2), 0);
        Checks.due("playerOf(0, 1)", hall.playerOf(0, 1), 1);
        duePurses("with the rest of the pot", hall, 20, 10);
        Checks.due("count(9)", hall.count(9), 0);
        GuessingHall poor = inRound(1, 5);
        poor.guess(0);
        poor.guess(1);
        poor.guess(2);
        Checks.due("round(0, 1) of an empty pot", poor.round(0, 1), 0);
        duePurses("with the rest of an empty pot", poor, 5);
        GuessingHall atOnce = Draws.round("zz*1;", 0, 3, 5, 5);
        Checks.due("guess(25) of zz", atOnce.guess(25), 2);
        Checks.due("round(0, 1) of zz", atOnce.round(0, 1), 0);
        duePurses("of zz", atOnce, 8, 2);
    }

    @Sentence(promise = 9, under = "Rounds", value = "A word that is told (whether it still fits or not)")
    static void aToldWordNeedsNotFit() {
        GuessingHall hall = Draws.round("abc*1;abd*1;ab*1;", 0, 2, 9, 9);
        hall.guess(2);
        Checks.due("wordOf(1, 4)", hall.wordOf(1, 4), 0);
        Checks.due("tell(1), which fits no more", hall.tell(1), 0);
        Checks.due("tell(2), which is too short", hall.tell(2), 0);
        Checks.due("tell(1) once more", hall.tell(1), 0);
        Checks.due("count(5)", hall.count(5), 3);
        Checks.due("count(6)", hall.count(6), 1 << 2);
    }

    @Sentence(promise = 9, under = "Rounds", value = "if it is the word of the round, the player has won, likewise")
    static void theWordOfTheRoundWins() {
        GuessingHall hall = IN_ROUND.get();
        hall.guess(0);
        hall.guess(25);
        Checks.due("tell(0)", hall.tell(0), 1);
        Checks.due("count(2)", hall.count(2), 0);
        Checks.due("playerOf(1, 1)", hall.playerOf(1, 1), 1);
        Checks.due("playerOf(0, 1)", hall.playerOf(0, 1), 0);
        duePurses("with the rest of the pot", hall, 8, 26, 26);
        GuessingHall poor = inRound(1, 5);
        poor.guess(0);
        poor.tell(0);
        duePurses("with the rest of an empty pot", poor, 5);
        Checks.due("round(0, 1) of an empty pot", poor.round(0, 1), 0);
    }

    @Sentence(promise = 9, under = "Rounds", value = "otherwise it is a miss, and the turn passes")
    static void aWrongWordIsAMiss() {
        GuessingHall hall = Draws.round("abc*1;abd*1;", 0, 2, 9, 9);
        hall.tell(1);
        Checks.due("count(3)", hall.count(3), 1);
        hall.tell(1);
        Checks.due("count(3) is round the bench", hall.count(3), 0);
        Checks.due("count(5)", hall.count(5), 2);
        for (int player = 0; player < 2; player++) {
            Checks.due("playerOf(" + player + ", 3)", hall.playerOf(player, 3), 1);
        }
    }

    @Sentence(promise = {8, 9}, under = "Rounds",
        value = "If there are as many misses as setting 0, the round is over, and the pot goes to the house.")
    static void theLastMiss() {
        for (int limit : new int[] {1, 2, 7, 12}) {
            for (int last = 0; last <= 1; last++) {
                GuessingHall hall = Checks.hall("abbac*1;zz*1;", 50, 50);
                hall.set(0, limit);
                Draws.prepare(hall, 0);
                hall.begin(3);
                miss(hall, limit - 1);
                Checks.due("count(2) before miss " + limit, hall.count(2), 1);
                Checks.due("count(9) before miss " + limit, hall.count(9), 0);
                Checks.due("the last miss", last == 0 ? hall.guess(24) : hall.tell(1), 0);
                Checks.due("count(2) behind miss " + limit, hall.count(2), 0);
                Checks.due("count(9) behind miss " + limit, hall.count(9), 6);
                Checks.due("round(0, 1) behind miss " + limit, hall.round(0, 1), 5);
                Checks.due("round(0, 2) behind miss " + limit, hall.round(0, 2), limit);
                duePurses("behind miss " + limit, hall, 47, 47);
            }
        }
        GuessingHall poor = Checks.hall(ABBAC, 5);
        poor.set(0, 1);
        poor.begin(1);
        poor.guess(0);
        poor.guess(25);
        Checks.due("count(9) of an empty pot", poor.count(9), 0);
        poor.begin(2);
        poor.guess(25);
        Checks.due("count(9) of one more pot", poor.count(9), 2);
        poor.begin(1);
        poor.guess(25);
        Checks.due("count(9) of both pots", poor.count(9), 3);
    }

    @Sentence(promise = {14, 12}, under = "Rounds",
        value = "A round that is over has its word told, and no hint is there any more.")
    static void whatIsOver() {
        for (int end = 0; end < 3; end++) {
            GuessingHall hall = Checks.hall("ab*1;cd*1;", 9, 9);
            hall.set(0, 1);
            Draws.prepare(hall, 1);
            hall.begin(1);
            hall.whisper(0, 1, 4);
            hall.whisper(1, 0, 5);
            Checks.due("round(0, 0) in the round", hall.round(0, 0), Checks.NOT_FOUND);
            if (end == 0) {
                hall.tell(1);
            } else if (end == 1) {
                hall.guess(2);
                hall.guess(3);
            } else {
                hall.tell(0);
            }
            Checks.due("round(0, 0) behind end " + end, hall.round(0, 0), 1);
            for (int player = 0; player < 2; player++) {
                Checks.due("playerOf(" + player + ", 4) behind end " + end, hall.playerOf(player, 4), Checks.NOT_FOUND);
                Checks.due("playerOf(" + player + ", 5) behind end " + end, hall.playerOf(player, 5), Checks.NOT_FOUND);
            }
        }
    }

    // ---- Promise 7: begin

    @Sentence(promise = 7, value = "`stake`: 1 to 50")
    static void beginStakeAtItsEnds() {
        Checks.due("begin(1)", READY.get().begin(1), 5);
        Checks.due("begin(50)", READY.get().begin(50), 5);
    }

    @Sentence(promise = 7, value = "Returns how many letters the word has")
    static void beginOfShortAndLong() {
        Checks.due("begin(1) of ab", Checks.hall("ab*1;", 5).begin(1), 2);
        Checks.due("begin(1) of abcdefgh", Checks.hall("abcdefgh*1;", 5).begin(1), 8);
        Checks.due("begin(1) of aaaaaaaa", Checks.hall("aaaaaaaa*1;", 5).begin(1), 8);
    }

    @Sentence(promise = 7, value = "INVALID_ARGUMENT if stake is out of range")
    static void beginOutOfRange() {
        Checks.refused("begin(0)", Checks.INVALID, READY, x -> x.begin(0));
        Checks.refused("begin(51)", Checks.INVALID, () -> Checks.hall(ABBAC, 999), x -> x.begin(51));
        for (int far : Checks.FAR) {
            Checks.refused("begin(" + far + ")", Checks.INVALID, READY, x -> x.begin(far));
        }
    }

    @Sentence(promise = 7, value = "NOT_POSSIBLE in a round")
    static void beginInARound() {
        Checks.refused("begin(1)", Checks.NOT_POSSIBLE, IN_ROUND, x -> x.begin(1));
        Checks.due("begin(1) behind it", Checks.after(IN_ROUND, x -> x.tell(0)).get().begin(1), 5);
    }

    @Sentence(promise = 7, value = "without words or players")
    static void beginOfNothing() {
        Checks.refused("begin(1) without words", Checks.NOT_POSSIBLE, () -> Checks.hall("", 5), x -> x.begin(1));
        Checks.refused("begin(1) without players", Checks.NOT_POSSIBLE, () -> Checks.hall(ABBAC), x -> x.begin(1));
        Checks.refused("begin(1) without both", Checks.NOT_POSSIBLE, GuessingHall::new, x -> x.begin(1));
        Checks.due("begin(1) of one and one", Checks.hall(ABBAC, 1).begin(1), 5);
    }

    @Sentence(promise = 7, value = "or if a purse has less than the stake")
    static void beginWithASmallPurse() {
        int[][] purses = {{3, 4, 4, 4, 4}, {4, 4, 3, 4, 4}, {4, 4, 4, 4, 3}, {3}, {4, 0}};
        for (int[] some : purses) {
            Supplier<GuessingHall> small = () -> Checks.hall(ABBAC, some);
            Checks.refused("begin(4)", Checks.NOT_POSSIBLE, small, x -> x.begin(4));
        }
        Checks.due("begin(4) of just the stake", Checks.hall(ABBAC, 4, 4, 4).begin(4), 5);
        Checks.due("begin(3) of 3 and more", Checks.hall(ABBAC, 3, 4, 4).begin(3), 5);
    }

    // ---- Promise 8: guess

    @Sentence(promise = 8, value = "`letter`: 0 to 25")
    static void guessOfFirstAndLast() {
        GuessingHall hall = Draws.round("azm*1;", 0, 1, 5);
        Checks.due("guess(0)", hall.guess(0), 1);
        Checks.due("guess(25)", hall.guess(25), 1);
        GuessingHall other = Draws.round("bym*1;", 0, 1, 5);
        Checks.due("guess(0), a miss", other.guess(0), 0);
        Checks.due("guess(25), a miss", other.guess(25), 0);
    }

    @Sentence(promise = 8, value = "Returns how many places are opened by it")
    static void guessOfNoneToAll() {
        String word = "aaaaaaaa";
        for (int places = 0; places <= 8; places++) {
            String list = word.substring(0, places) + "bbbbbbbb".substring(places) + "*1;";
            Checks.due("guess(0) of " + list, Draws.round(list, 0, 1, 5, 5).guess(0), places);
        }
    }

    @Sentence(promise = 8, value = "INVALID_ARGUMENT if letter is out of range")
    static void guessOutOfRange() {
        Checks.refused("guess(-1)", Checks.INVALID, IN_ROUND, x -> x.guess(-1));
        Checks.refused("guess(26)", Checks.INVALID, IN_ROUND, x -> x.guess(26));
        Checks.refused("guess(32), which is 0 as a bit", Checks.INVALID, IN_ROUND, x -> x.guess(32));
        for (int far : Checks.FAR) {
            Checks.refused("guess(" + far + ")", Checks.INVALID, IN_ROUND, x -> x.guess(far));
        }
    }

    @Sentence(promise = 8, value = "NOT_POSSIBLE without a round")
    static void guessWithoutARound() {
        Checks.refused("guess(0) before one", Checks.NOT_POSSIBLE, READY, x -> x.guess(0));
        Checks.refused("guess(0) in a new hall", Checks.NOT_POSSIBLE, GuessingHall::new, x -> x.guess(0));
        Supplier<GuessingHall> over = Checks.after(IN_ROUND, x -> x.tell(0));
        Checks.refused("guess(0) behind one", Checks.NOT_POSSIBLE, over, x -> x.guess(0));
    }

    @Sentence(promise = 8, value = "or if it is guessed")
    static void guessOfAGuessedLetter() {
        for (int letter : new int[] {0, 1, 2, 3, 25}) {
            Supplier<GuessingHall> guessed = Checks.after(IN_ROUND, x -> x.guess(letter));
            Checks.refused("guess(" + letter + ") again", Checks.NOT_POSSIBLE, guessed, x -> x.guess(letter));
            Checks.isTrue("guess(24) behind it", guessed.get().guess(24) == 0);
        }
    }

    // ---- Promise 9: tell

    @Sentence(promise = 9, value = "`word`: number of the word")
    static void tellOfFirstAndLast() {
        for (int word : new int[] {0, 15}) {
            GuessingHall hall = Draws.round(Checks.list(16, 2), word, 1, 5);
            Checks.due("tell(" + (15 - word) + ")", hall.tell(15 - word), 0);
            Checks.due("tell(" + word + ")", hall.tell(word), 1);
        }
    }

    @Sentence(promise = 9, value = "Returns 1 if it is the word of the round, otherwise 0")
    static void tellOfEachWord() {
        for (int hidden = 0; hidden < 4; hidden++) {
            for (int word = 0; word < 4; word++) {
                GuessingHall hall = Draws.round("ab*1;ba*1;abc*1;aa*1;", hidden, 1, 5);
                Checks.due("tell(" + word + ") of " + hidden, hall.tell(word), word == hidden ? 1 : 0);
            }
        }
    }

    @Sentence(promise = 9, value = "INVALID_ARGUMENT;")
    static void tellOutOfRange() {
        Checks.refused("tell(-1)", Checks.INVALID, IN_ROUND, x -> x.tell(-1));
        Checks.refused("tell(1) of 1", Checks.INVALID, IN_ROUND, x -> x.tell(1));
        Checks.refused("tell(0) of none", Checks.INVALID, () -> Checks.hall("", 5), x -> x.tell(0));
        for (int far : Checks.FAR) {
            Checks.refused("tell(" + far + ")", Checks.INVALID, IN_ROUND, x -> x.tell(far));
        }
    }

    @Sentence(promise = 9, value = "NOT_POSSIBLE without a round")
    static void tellWithoutARound() {
        Checks.refused("tell(0) before one", Checks.NOT_POSSIBLE, READY, x -> x.tell(0));
        Supplier<GuessingHall> over = Checks.after(IN_ROUND, x -> x.tell(0));
        Checks.refused("tell(0) behind one", Checks.NOT_POSSIBLE, over, x -> x.tell(0));
    }
}
