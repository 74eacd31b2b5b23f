import java.util.function.Supplier;

/** What is told under Words, Players and Settings, and promises 1 to 6. */
final class WordsAndPlayersEdges {
    private static final String LIST = "ab*1;cd*99;efg*50;";
    private static final Supplier<GuessingHall> READY = () -> Checks.hall(LIST, 10, 0, 999);
    private static final Supplier<GuessingHall> IN_ROUND = () -> Draws.round(LIST, 0, 1, 10, 20, 999);
    private static final Supplier<GuessingHall> FULL_BENCH = () -> Checks.hall(LIST, 0, 1, 2, 3, 4);

    private WordsAndPlayersEdges() {
    }

    // ---- Words

    @Sentence(promise = {26, 11}, under = "Words", value = "There are at most 16 words, numbered from 0")
    static void sixteenWords() {
        GuessingHall hall = Checks.hall(Checks.list(16, 1));
        Checks.due("count(0)", hall.count(0), 16);
        Checks.due("wordOf(0, 10)", hall.wordOf(0, 10), 0);
        Checks.due("wordOf(15, 10)", hall.wordOf(15, 10), 15);
        Checks.due("wordOf(-1, 10)", hall.wordOf(-1, 10), Checks.INVALID);
        Checks.due("wordOf(16, 10)", hall.wordOf(16, 10), Checks.INVALID);
        Supplier<GuessingHall> seventeen = () -> Checks.typed(Checks.list(17, 1));
        Checks.refused("read() of 17 words", Checks.NOT_POSSIBLE, seventeen, x -> x.read());
    }

    @Sentence(promise = 26, under = "Words", value = "no two the same")
    static void noTwoTheSame() {
        Checks.due("read() of two that differ", Checks.typed("ab*1;ba*1;").read(), 2);
        Checks.due("read() of one that begins as another", Checks.typed("ab*1;abc*1;").read(), 2);
        Checks.due("read() of one that begins another", Checks.typed("abc*1;ab*1;").read(), 2);
        Supplier<GuessingHall> same = () -> Checks.typed("ab*1;cd*1;ab*2;");
        Checks.refused("read() of a word twice", Checks.NOT_POSSIBLE, same, x -> x.read());
    }

    @Sentence(promise = 26, under = "Words", value = "each has 2 to 8 letters and a weight (1 to 99)")
    static void lettersAndWeights() {
        for (String good : new String[] {"ab*1;", "ab*99;", "abcdefgh*1;", "abcdefgh*99;"}) {
            Checks.due("read() of " + good, Checks.typed(good).read(), 1);
        }
        for (String wrong : new String[] {"a*1;", "abcdefghi*1;", "*1;", "ab*0;", "ab*100;", "ab*;"}) {
            Checks.refused("read() of " + wrong, Checks.NOT_POSSIBLE, () -> Checks.typed(wrong), x -> x.read());
        }
    }

    @Sentence(promise = {6, 15}, under = "Words", value = "the number of the draw, x (1 at first)")
    static void firstNumberOfTheDraw() {
        Checks.due("count(10)", new GuessingHall().count(10), 1);
        Checks.due("seed(0)", new GuessingHall().seed(0), 1);
    }

    @Sentence(promise = 7, under = "Words", value = "becomes (x * 1103515245 + 12345) modulo 2147483648, reckoned exactly")
    static void theDrawWrapsRound() {
        int[] numbers = {0, 1, 2, 3, 65535, 65536, 1073741823, 1073741824, 2147483646, 2147483647, Draws.before(0),
            Draws.before(1), Draws.before(2147483647), Draws.before(1073741824)};
        for (int number : numbers) {
            GuessingHall hall = Checks.hall("ab*1;", 5);
            hall.seed(number);
            hall.begin(1);
            Checks.due("count(10) behind " + number, hall.count(10), Draws.behind(number));
        }
        GuessingHall first = Checks.hall("ab*1;", 5);
        first.begin(1);
        Checks.due("count(10) behind the first number", first.count(10), 1103527590);
        first.seed(2147483647);
        first.tell(0);
        first.begin(1);
        Checks.due("count(10) behind 2147483647", first.count(10), 1043980748);
    }

    private static void dueDraw(String list, int drawn, int word) {
        GuessingHall hall = Checks.hall(list, 5);
        hall.seed(Draws.before(drawn));
        hall.begin(1);
        Checks.due("count(10)", hall.count(10), drawn);
        for (int index = 0; index < hall.count(0); index++) {
            Checks.due("wordOf(" + index + ", 3) of draw " + drawn, hall.wordOf(index, 3), index == word ? 1 : 0);
        }
    }

    @Sentence(promise = 7, under = "Words", value = "let r be (x / 65536) modulo the sum of all weights")
    static void theRestOfADraw() {
        String five = "ab*2;cd*3;";
        dueDraw(five, 0, 0);
        dueDraw(five, 2 * 65536 - 1, 0);
        dueDraw(five, 2 * 65536, 1);
        dueDraw(five, 5 * 65536 - 1, 1);
        dueDraw(five, 5 * 65536, 0);
        dueDraw(five, 7 * 65536 - 1, 0);
        dueDraw(five, 7 * 65536, 1);
        dueDraw(five, 32765 * 65536 - 1, 1);
        dueDraw(five, 32765 * 65536, 0);
        dueDraw(five, 2147483647, 1);
        dueDraw("ab*1;", 0, 0);
        dueDraw("ab*1;", 2147483647, 0);
        String greatest = Checks.list(16, 99);
        dueDraw(greatest, 1584 * 65536 - 1, 15);
        dueDraw(greatest, 1584 * 65536, 0);
    }

    @Sentence(promise = 7, under = "Words",
        value = "the word is the first one for which the sum of the weights up to it, itself too, is above r")
    static void theWordOfARest() {
        String list = "ab*3;cd*1;ef*99;gh*20;";
        int[] firstRest = {0, 3, 4, 103};
        int[] lastRest = {2, 3, 102, 122};
        for (int word = 0; word < 4; word++) {
            dueDraw(list, firstRest[word] * 65536, word);
            dueDraw(list, lastRest[word] * 65536, word);
        }
    }

    // ---- Players

    @Sentence(promise = 3, under = "Players",
        value = "There are at most 5 players, numbered from 0 as they sit on the bench, each with a purse (0 or more)")
    static void fivePlayers() {
        GuessingHall hall = new GuessingHall();
        int[] purses = {0, 999, 1, 0, 7};
        for (int player = 0; player < 5; player++) {
            Checks.due("seat(" + purses[player] + ")", hall.seat(purses[player]), player);
        }
        Checks.due("seat(1) of a sixth", hall.seat(1), Checks.LIMIT);
        Checks.due("count(1)", hall.count(1), 5);
        for (int player = 0; player < 5; player++) {
            Checks.due("playerOf(" + player + ", 0)", hall.playerOf(player, 0), purses[player]);
        }
        Checks.due("playerOf(-1, 0)", hall.playerOf(-1, 0), Checks.INVALID);
        Checks.due("playerOf(5, 0)", hall.playerOf(5, 0), Checks.INVALID);
    }

    @Sentence(promise = 10, under = "Players", value = "Beside a player are those with numbers less and greater by 1.")
    static void besideOnTheBench() {
        for (int player = 0; player < 5; player++) {
            for (int to = 0; to < 5; to++) {
                boolean beside = player - to == 1 || to - player == 1;
                GuessingHall hall = Draws.round("ab*1;", 0, 1, 9, 9, 9, 9, 9);
                Checks.due("whisper(" + player + ", " + to + ", 0)", hall.whisper(player, to, 0),
                    beside ? 26 : Checks.NOT_POSSIBLE);
            }
        }
    }

    // ---- Settings

    @Sentence(promise = {5, 15}, under = "Settings", value = "0 how many misses end a round (1 to 12; 7)")
    static void theSetting() {
        GuessingHall hall = new GuessingHall();
        Checks.due("count(15)", hall.count(15), 7);
        Checks.due("set(0, 1)", hall.set(0, 1), 7);
        Checks.due("set(0, 12)", hall.set(0, 12), 1);
        Checks.due("set(0, 0)", hall.set(0, 0), Checks.INVALID);
        Checks.due("set(0, 13)", hall.set(0, 13), Checks.INVALID);
        Checks.due("count(15)", hall.count(15), 12);
    }

    // ---- Promise 1: a new object

    @Sentence(promise = 1, value = "Creates a hall without words and players.")
    static void aNewHall() {
        Checks.hall(LIST, 5, 5).begin(1);
        GuessingHall hall = new GuessingHall();
        for (int what : new int[] {0, 1, 2, 8, 9, 11, 12, 13, 14}) {
            Checks.due("count(" + what + ")", hall.count(what), 0);
        }
        Checks.due("wordOf(0, 0)", hall.wordOf(0, 0), Checks.INVALID);
        Checks.due("playerOf(0, 0)", hall.playerOf(0, 0), Checks.INVALID);
        Checks.due("round(0, 0)", hall.round(0, 0), Checks.NOT_FOUND);
        Checks.due("begin(1)", hall.begin(1), Checks.NOT_POSSIBLE);
        Checks.due("keep()", hall.keep(), 0);
    }

    // ---- Promise 2: word

    @Sentence(promise = 2, value = "`word`: number of the word")
    static void wordOfFirstAndLast() {
        GuessingHall hall = READY.get();
        Checks.due("word(0, 7)", hall.word(0, 7), 1);
        Checks.due("word(2, 8)", hall.word(2, 8), 50);
        int[] weights = {7, 99, 8};
        for (int word = 0; word < 3; word++) {
            Checks.due("wordOf(" + word + ", 1)", hall.wordOf(word, 1), weights[word]);
        }
        Checks.due("word(15, 2) of 16", Checks.hall(Checks.list(16, 1)).word(15, 2), 1);
    }

    @Sentence(promise = 2, value = "`weight`: 1 to 99")
    static void wordWeightAtItsEnds() {
        GuessingHall hall = READY.get();
        Checks.due("word(0, 99)", hall.word(0, 99), 1);
        Checks.due("wordOf(0, 1)", hall.wordOf(0, 1), 99);
        Checks.due("word(0, 1)", hall.word(0, 1), 99);
        Checks.due("wordOf(0, 1)", hall.wordOf(0, 1), 1);
    }

    @Sentence(promise = 2, value = "Returns what it was")
    static void wordWhatItWas() {
        GuessingHall hall = READY.get();
        Checks.due("word(1, 99), which it is", hall.word(1, 99), 99);
        Checks.due("word(1, 98)", hall.word(1, 98), 99);
        Checks.due("word(1, 98)", hall.word(1, 98), 98);
    }

    @Sentence(promise = 2, value = "INVALID_ARGUMENT if an argument is out of range")
    static void wordOutOfRange() {
        Checks.refused("word(-1, 5)", Checks.INVALID, READY, x -> x.word(-1, 5));
        Checks.refused("word(3, 5) of 3", Checks.INVALID, READY, x -> x.word(3, 5));
        Checks.refused("word(0, 5) of none", Checks.INVALID, GuessingHall::new, x -> x.word(0, 5));
        Checks.refused("word(0, 0)", Checks.INVALID, READY, x -> x.word(0, 0));
        Checks.refused("word(0, 100)", Checks.INVALID, READY, x -> x.word(0, 100));
        for (int far : Checks.FAR) {
            Checks.refused("word(" + far + ", 5)", Checks.INVALID, READY, x -> x.word(far, 5));
            Checks.refused("word(0, " + far + ")", Checks.INVALID, READY, x -> x.word(0, far));
        }
    }

    @Sentence(promise = 2, value = "NOT_POSSIBLE in a round")
    static void wordInARound() {
        Checks.refused("word(0, 5)", Checks.NOT_POSSIBLE, IN_ROUND, x -> x.word(0, 5));
        Checks.due("word(0, 5) behind it", Checks.after(IN_ROUND, x -> x.tell(0)).get().word(0, 5), 1);
    }

    // ---- Promise 3: seat

    @Sentence(promise = 3, value = "`purse`: 0 to 999")
    static void seatPurseAtItsEnds() {
        GuessingHall hall = new GuessingHall();
        Checks.due("seat(0)", hall.seat(0), 0);
        Checks.due("seat(999)", hall.seat(999), 1);
        Checks.due("playerOf(0, 0)", hall.playerOf(0, 0), 0);
        Checks.due("playerOf(1, 0)", hall.playerOf(1, 0), 999);
    }

    @Sentence(promise = 3, value = "INVALID_ARGUMENT if purse is out of range")
    static void seatOutOfRange() {
        Checks.refused("seat(-1)", Checks.INVALID, READY, x -> x.seat(-1));
        Checks.refused("seat(1000)", Checks.INVALID, READY, x -> x.seat(1000));
        for (int far : Checks.FAR) {
            Checks.refused("seat(" + far + ")", Checks.INVALID, READY, x -> x.seat(far));
        }
    }

    @Sentence(promise = 3, value = "NOT_POSSIBLE in a round")
    static void seatInARound() {
        Checks.refused("seat(1)", Checks.NOT_POSSIBLE, IN_ROUND, x -> x.seat(1));
        Checks.due("seat(1) behind it", Checks.after(IN_ROUND, x -> x.tell(0)).get().seat(1), 3);
    }

    @Sentence(promise = 3, value = "LIMIT_REACHED if there are 5")
    static void seatOfASixth() {
        Checks.due("seat(1) behind 4", Checks.hall(LIST, 1, 2, 3, 4).seat(1), 4);
        Checks.refused("seat(0) behind 5", Checks.LIMIT, FULL_BENCH, x -> x.seat(0));
        Checks.refused("seat(999) behind 5", Checks.LIMIT, FULL_BENCH, x -> x.seat(999));
        GuessingHall hall = FULL_BENCH.get();
        hall.undo();
        Checks.due("seat(9) behind undo()", hall.seat(9), 4);
    }

    // ---- Promise 4: lend

    @Sentence(promise = 4, value = "`player`: number of the player")
    static void lendOfFirstAndLast() {
        GuessingHall hall = FULL_BENCH.get();
        Checks.due("lend(4, 0, 1)", hall.lend(4, 0, 1), 3);
        Checks.due("lend(0, 4, 1)", hall.lend(0, 4, 1), 0);
        int[] purses = {0, 1, 2, 3, 4};
        for (int player = 0; player < 5; player++) {
            Checks.due("playerOf(" + player + ", 0)", hall.playerOf(player, 0), purses[player]);
        }
    }

    @Sentence(promise = 4, value = "`to`: number of the other one")
    static void lendToFirstAndLast() {
        GuessingHall hall = FULL_BENCH.get();
        Checks.due("lend(2, 0, 1)", hall.lend(2, 0, 1), 1);
        Checks.due("lend(2, 4, 1)", hall.lend(2, 4, 1), 0);
        int[] purses = {1, 1, 0, 3, 5};
        for (int player = 0; player < 5; player++) {
            Checks.due("playerOf(" + player + ", 0)", hall.playerOf(player, 0), purses[player]);
        }
    }

    @Sentence(promise = 4, value = "`coins`: 1 to 999")
    static void lendCoinsAtTheirEnds() {
        GuessingHall hall = READY.get();
        Checks.due("lend(2, 0, 999)", hall.lend(2, 0, 999), 0);
        Checks.due("playerOf(0, 0): above what seat() takes", hall.playerOf(0, 0), 1009);
        Checks.due("lend(0, 1, 1)", hall.lend(0, 1, 1), 1008);
        Checks.due("playerOf(1, 0)", hall.playerOf(1, 0), 1);
    }

    @Sentence(promise = 4, value = "Returns the purse of the player then")
    static void lendTellsThePurse() {
        Checks.due("lend(0, 1, 10) of all there is", READY.get().lend(0, 1, 10), 0);
        Checks.due("lend(2, 1, 1) of the most", READY.get().lend(2, 1, 1), 998);
        Checks.due("lend(0, 1, 1) in a round", IN_ROUND.get().lend(0, 1, 1), 8);
    }

    @Sentence(promise = 4, value = "INVALID_ARGUMENT if an argument is out of range")
    static void lendOutOfRange() {
        Checks.refused("lend(-1, 1, 1)", Checks.INVALID, READY, x -> x.lend(-1, 1, 1));
        Checks.refused("lend(3, 1, 1) of 3", Checks.INVALID, READY, x -> x.lend(3, 1, 1));
        Checks.refused("lend(0, -1, 1)", Checks.INVALID, READY, x -> x.lend(0, -1, 1));
        Checks.refused("lend(0, 3, 1) of 3", Checks.INVALID, READY, x -> x.lend(0, 3, 1));
        Checks.refused("lend(0, 1, 1) of none", Checks.INVALID, GuessingHall::new, x -> x.lend(0, 1, 1));
        Checks.refused("lend(0, 1, 0)", Checks.INVALID, READY, x -> x.lend(0, 1, 0));
        Checks.refused("lend(0, 1, -1)", Checks.INVALID, READY, x -> x.lend(0, 1, -1));
        Supplier<GuessingHall> rich = Checks.after(READY, x -> x.lend(0, 2, 10));
        Checks.refused("lend(2, 1, 1000) of 1009", Checks.INVALID, rich, x -> x.lend(2, 1, 1000));
        for (int far : Checks.FAR) {
            Checks.refused("lend(" + far + ", 1, 1)", Checks.INVALID, READY, x -> x.lend(far, 1, 1));
            Checks.refused("lend(0, " + far + ", 1)", Checks.INVALID, READY, x -> x.lend(0, far, 1));
            Checks.refused("lend(0, 1, " + far + ")", Checks.INVALID, READY, x -> x.lend(0, 1, far));
        }
    }

    @Sentence(promise = 4, value = "or both are the same")
    static void lendToOneself() {
        for (int player = 0; player < 3; player++) {
            int one = player;
            Checks.refused("lend(" + one + ", " + one + ", 1)", Checks.INVALID, READY, x -> x.lend(one, one, 1));
        }
    }

    @Sentence(promise = 4, value = "NOT_POSSIBLE if the purse has less")
    static void lendMoreThanThePurse() {
        Checks.refused("lend(0, 1, 11) of 10", Checks.NOT_POSSIBLE, READY, x -> x.lend(0, 1, 11));
        Checks.refused("lend(1, 0, 1) of 0", Checks.NOT_POSSIBLE, READY, x -> x.lend(1, 0, 1));
        Checks.due("lend(0, 1, 10) of 10", READY.get().lend(0, 1, 10), 0);
        Checks.due("lend(0, 1, 9) of 10", READY.get().lend(0, 1, 9), 1);
    }

    // ---- Promise 5: set

    @Sentence(promise = 5, value = "`what`: 0")
    static void setOfTheOneSetting() {
        Checks.due("set(0, 5)", READY.get().set(0, 5), 7);
        Checks.refused("set(-1, 5)", Checks.INVALID, READY, x -> x.set(-1, 5));
        Checks.refused("set(1, 5)", Checks.INVALID, READY, x -> x.set(1, 5));
    }

    @Sentence(promise = 5, value = "`value`: a value in its range")
    static void setOfEachValue() {
        for (int value = 1; value <= 12; value++) {
            GuessingHall hall = READY.get();
            Checks.due("set(0, " + value + ")", hall.set(0, value), 7);
            Checks.due("count(15)", hall.count(15), value);
        }
    }

    @Sentence(promise = 5, value = "Returns what it was")
    static void setTellsWhatItWas() {
        GuessingHall hall = READY.get();
        Checks.due("set(0, 7), which it is", hall.set(0, 7), 7);
        Checks.due("set(0, 12)", hall.set(0, 12), 7);
        Checks.due("set(0, 1)", hall.set(0, 1), 12);
        Checks.due("set(0, 1), which it is", hall.set(0, 1), 1);
    }

    @Sentence(promise = 5, value = "INVALID_ARGUMENT if an argument is out of range")
    static void setOutOfRange() {
        Checks.refused("set(0, 0)", Checks.INVALID, READY, x -> x.set(0, 0));
        Checks.refused("set(0, 13)", Checks.INVALID, READY, x -> x.set(0, 13));
        for (int far : Checks.FAR) {
            Checks.refused("set(" + far + ", 5)", Checks.INVALID, READY, x -> x.set(far, 5));
            Checks.refused("set(0, " + far + ")", Checks.INVALID, READY, x -> x.set(0, far));
        }
    }

    @Sentence(promise = 5, value = "NOT_POSSIBLE in a round")
    static void setInARound() {
        Checks.refused("set(0, 5)", Checks.NOT_POSSIBLE, IN_ROUND, x -> x.set(0, 5));
        Checks.due("set(0, 5) behind it", Checks.after(IN_ROUND, x -> x.tell(0)).get().set(0, 5), 7);
    }

    // ---- Promise 6: seed

    @Sentence(promise = 6, value = "`number`: 0 or more")
    static void seedAtItsEnds() {
        GuessingHall hall = READY.get();
        Checks.due("seed(0)", hall.seed(0), 1);
        Checks.due("count(10)", hall.count(10), 0);
        Checks.due("seed(2147483647)", hall.seed(2147483647), 0);
        Checks.due("count(10)", hall.count(10), 2147483647);
        Checks.due("seed(3)", hall.seed(3), 2147483647);
        Checks.due("seed(4) in a round", IN_ROUND.get().seed(4), 0);
    }

    @Sentence(promise = 6, value = "Returns what it was")
    static void seedTellsWhatItWas() {
        GuessingHall hall = Checks.hall(LIST, 9);
        Checks.due("seed(0) at first", hall.seed(0), 1);
        Checks.due("seed(0), which it is", hall.seed(0), 0);
        hall.begin(1);
        Checks.due("seed(9) behind a draw", hall.seed(9), 12345);
        Checks.due("seed(2147483647)", hall.seed(2147483647), 9);
        Checks.due("seed(1)", hall.seed(1), 2147483647);
    }

    @Sentence(promise = 6, value = "INVALID_ARGUMENT if number is below 0")
    static void seedBelowZero() {
        for (int number : new int[] {-1, -2, Integer.MIN_VALUE + 1, Integer.MIN_VALUE}) {
            Checks.refused("seed(" + number + ")", Checks.INVALID, READY, x -> x.seed(number));
            Checks.refused("seed(" + number + ") in a round", Checks.INVALID, IN_ROUND, x -> x.seed(number));
        }
    }
}
