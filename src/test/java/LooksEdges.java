import java.util.List;
import java.util.function.Supplier;

/** Promises 11 to 15: what there is. */
final class LooksEdges {
    private static final String LIST = "az*1;abcdefgh*99;zzz*7;";
    private static final Supplier<GuessingHall> READY = () -> Checks.hall(LIST, 30, 40);
    private static final Supplier<GuessingHall> IN_ROUND = () -> Draws.round(LIST, 1, 3, 30, 40);
    private static final Supplier<GuessingHall> OVER = Checks.after(IN_ROUND, x -> x.tell(1));

    private LooksEdges() {
    }

    // ---- Promise 11: wordOf

    @Sentence(promise = 11, value = "`word`: number of the word")
    static void wordOfFirstAndLast() {
        GuessingHall hall = Checks.hall(Checks.list(16, 5));
        Checks.due("wordOf(0, 10)", hall.wordOf(0, 10), 0);
        Checks.due("wordOf(15, 10)", hall.wordOf(15, 10), 15);
    }

    @Sentence(promise = 11, value = "`what`: 0: how many letters it has; 1: its weight; 2: its letters, as a set; "
        + "3: how often it was drawn; 4: 1 if it fits, otherwise 0; 10 plus a place: its letter there")
    static void wordOfEachThing() {
        GuessingHall hall = IN_ROUND.get();
        int[][] due = {{2, 1, 1 << 25 | 1, 0, 0}, {8, 99, 255, 1, 1}, {3, 7, 1 << 25, 0, 0}};
        for (int word = 0; word < 3; word++) {
            for (int what = 0; what < 5; what++) {
                Checks.due("wordOf(" + word + ", " + what + ")", hall.wordOf(word, what), due[word][what]);
            }
        }
        Checks.due("wordOf(0, 10)", hall.wordOf(0, 10), 0);
        Checks.due("wordOf(0, 11)", hall.wordOf(0, 11), 25);
        for (int place = 0; place < 8; place++) {
            Checks.due("wordOf(1, 10 + " + place + ")", hall.wordOf(1, 10 + place), place);
        }
    }

    @Sentence(promise = 11, value = "INVALID_ARGUMENT if an argument is out of range (also a place that it has not)")
    static void wordOfOutOfRange() {
        GuessingHall hall = IN_ROUND.get();
        Checks.due("wordOf(-1, 0)", hall.wordOf(-1, 0), Checks.INVALID);
        Checks.due("wordOf(3, 0) of 3", hall.wordOf(3, 0), Checks.INVALID);
        Checks.due("wordOf(16, 0)", Checks.hall(Checks.list(16, 5)).wordOf(16, 0), Checks.INVALID);
        for (int what : new int[] {-1, 5, 6, 7, 8, 9}) {
            Checks.due("wordOf(1, " + what + ")", hall.wordOf(1, what), Checks.INVALID);
        }
        Checks.due("wordOf(0, 12) of two letters", hall.wordOf(0, 12), Checks.INVALID);
        Checks.due("wordOf(2, 13) of three letters", hall.wordOf(2, 13), Checks.INVALID);
        Checks.due("wordOf(2, 12) of three letters", hall.wordOf(2, 12), 25);
        Checks.due("wordOf(1, 18) of eight letters", hall.wordOf(1, 18), Checks.INVALID);
        for (int far : Checks.FAR) {
            Checks.due("wordOf(" + far + ", 0)", hall.wordOf(far, 0), Checks.INVALID);
            Checks.due("wordOf(" + far + ", 4)", hall.wordOf(far, 4), Checks.INVALID);
            Checks.due("wordOf(0, " + far + ")", hall.wordOf(0, far), Checks.INVALID);
        }
    }

    @Sentence(promise = 11, value = "NOT_FOUND for 4 without a round")
    static void wordOfFitWithoutARound() {
        for (int word = 0; word < 3; word++) {
            Checks.due("wordOf(" + word + ", 4) before one", READY.get().wordOf(word, 4), Checks.NOT_FOUND);
            Checks.due("wordOf(" + word + ", 4) in one", IN_ROUND.get().wordOf(word, 4), word == 1 ? 1 : 0);
            Checks.due("wordOf(" + word + ", 4) behind one", OVER.get().wordOf(word, 4), Checks.NOT_FOUND);
            Checks.due("wordOf(" + word + ", 3) behind one", OVER.get().wordOf(word, 3), word == 1 ? 1 : 0);
        }
    }

    // ---- Promise 12: playerOf

    @Sentence(promise = 12, value = "`player`: number of the player")
    static void playerOfFirstAndLast() {
        GuessingHall hall = Checks.hall("", 5, 6, 7, 8, 9);
        Checks.due("playerOf(0, 0)", hall.playerOf(0, 0), 5);
        Checks.due("playerOf(4, 0)", hall.playerOf(4, 0), 9);
    }

    @Sentence(promise = 12, value = "`what`: 0: the purse; 1: rounds won; 2: letters guessed that were in the word; "
        + "3: misses; 4: the letter of the hint that is there; 5: who whispered it")
    static void playerOfEachThing() {
        GuessingHall hall = IN_ROUND.get();
        hall.guess(0);
        hall.guess(7);
        hall.guess(25);
        hall.tell(0);
        hall.tell(1);
        hall.begin(5);
        hall.whisper(0, 1, 25);
        hall.whisper(1, 0, 0);
        // 30 - 3 + 2 + 4 - 5 and 40 - 3 - 5
        int[][] due = {{28, 1, 2, 1, 0, 1}, {32, 0, 0, 1, 25, 0}};
        for (int player = 0; player < 2; player++) {
            for (int what = 0; what < 6; what++) {
                Checks.due("playerOf(" + player + ", " + what + ")", hall.playerOf(player, what), due[player][what]);
            }
        }
        GuessingHall still = Checks.hall("", 0);
        for (int what = 0; what < 4; what++) {
            Checks.due("playerOf(0, " + what + ") at first", still.playerOf(0, what), 0);
        }
    }

    @Sentence(promise = 12, value = "INVALID_ARGUMENT if an argument is out of range")
    static void playerOfOutOfRange() {
        GuessingHall hall = IN_ROUND.get();
        hall.whisper(0, 1, 3);
        Checks.due("playerOf(-1, 0)", hall.playerOf(-1, 0), Checks.INVALID);
        Checks.due("playerOf(2, 0) of 2", hall.playerOf(2, 0), Checks.INVALID);
        Checks.due("playerOf(2, 4) of 2", hall.playerOf(2, 4), Checks.INVALID);
        Checks.due("playerOf(5, 0) of 5", Checks.hall("", 1, 1, 1, 1, 1).playerOf(5, 0), Checks.INVALID);
        Checks.due("playerOf(0, 0) of none", new GuessingHall().playerOf(0, 0), Checks.INVALID);
        Checks.due("playerOf(1, -1)", hall.playerOf(1, -1), Checks.INVALID);
        Checks.due("playerOf(1, 6)", hall.playerOf(1, 6), Checks.INVALID);
        for (int far : Checks.FAR) {
            Checks.due("playerOf(" + far + ", 0)", hall.playerOf(far, 0), Checks.INVALID);
            Checks.due("playerOf(" + far + ", 5)", hall.playerOf(far, 5), Checks.INVALID);
            Checks.due("playerOf(1, " + far + ")", hall.playerOf(1, far), Checks.INVALID);
        }
    }

    @Sentence(promise = 12, value = "NOT_FOUND for 4 and 5 if there is none")
    static void playerOfNoHint() {
        GuessingHall hall = IN_ROUND.get();
        hall.whisper(0, 1, 0);
        for (int what = 4; what <= 5; what++) {
            Checks.due("playerOf(0, " + what + ") without a round", READY.get().playerOf(0, what), Checks.NOT_FOUND);
            Checks.due("playerOf(0, " + what + ") who whispered", hall.playerOf(0, what), Checks.NOT_FOUND);
            Checks.due("playerOf(1, " + what + ") who heard", hall.playerOf(1, what), 0);
        }
        hall.tell(1);
        for (int what = 4; what <= 5; what++) {
            Checks.due("playerOf(1, " + what + ") behind the round", hall.playerOf(1, what), Checks.NOT_FOUND);
        }
    }

    // ---- Promise 13: open

    @Sentence(promise = 13, value = "`place`: 0 or more")
    static void openOfFirstAndLast() {
        GuessingHall hall = IN_ROUND.get();
        hall.guess(0);
        hall.guess(7);
        Checks.due("open(0)", hall.open(0), 0);
        Checks.due("open(7)", hall.open(7), 7);
    }

    @Sentence(promise = 13, value = "Returns the letter, 26 if it is not open")
    static void openOrNot() {
        GuessingHall hall = IN_ROUND.get();
        for (int guessed = 0; guessed < 7; guessed++) {
            hall.guess(guessed);
            for (int place = 0; place < 8; place++) {
                Checks.due("open(" + place + ")", hall.open(place), place <= guessed ? place : 26);
            }
        }
        GuessingHall last = Draws.round("zy*1;", 0, 1, 5);
        last.guess(25);
        Checks.due("open(0), z", last.open(0), 25);
        Checks.due("open(1)", last.open(1), 26);
    }

    @Sentence(promise = 13, value = "INVALID_ARGUMENT if place is negative")
    static void openOfNegative() {
        for (int place : new int[] {-1, -2, Integer.MIN_VALUE}) {
            Checks.due("open(" + place + ")", IN_ROUND.get().open(place), Checks.INVALID);
            Checks.due("open(" + place + ") without a round", READY.get().open(place), Checks.INVALID);
        }
    }

    @Sentence(promise = 13, value = "NOT_POSSIBLE without a round")
    static void openWithoutARound() {
        for (int place : new int[] {0, 7, 8, Integer.MAX_VALUE}) {
            Checks.due("open(" + place + ") before one", READY.get().open(place), Checks.NOT_POSSIBLE);
            Checks.due("open(" + place + ") behind one", OVER.get().open(place), Checks.NOT_POSSIBLE);
            Checks.due("open(" + place + ") in a new hall", new GuessingHall().open(place), Checks.NOT_POSSIBLE);
        }
    }

    @Sentence(promise = 13, value = "NOT_FOUND if the word has not so many letters")
    static void openBehindTheWord() {
        for (int word = 0; word < 3; word++) {
            GuessingHall hall = Draws.round(LIST, word, 1, 5);
            int letters = new int[] {2, 8, 3}[word];
            Checks.due("open() of the last place of " + word, hall.open(letters - 1), 26);
            for (int place : new int[] {letters, letters + 1, 8, Integer.MAX_VALUE}) {
                Checks.due("open(" + place + ") of " + word, hall.open(place), Checks.NOT_FOUND);
            }
        }
    }

    // ---- Promise 14: round

    /** So many rounds with the stakes 1, 2 and so on, in words 0, 1, 2, 0 and so on; each is won by who begins it. */
    private static GuessingHall played(int rounds) {
        GuessingHall hall = Checks.hall(LIST, 900, 900);
        for (int number = 0; number < rounds; number++) {
            Draws.prepare(hall, number % 3);
            hall.begin(number + 1);
            hall.tell(number % 3);
        }
        return hall;
    }

    @Sentence(promise = 14, value = "the latest 6 are kept")
    static void sixRoundsAreKept() {
        for (int rounds = 0; rounds <= 14; rounds++) {
            GuessingHall hall = played(rounds);
            for (int index = 0; index <= 15; index++) {
                int due = index < Math.min(rounds, 6) ? rounds - index : Checks.NOT_FOUND;
                Checks.due("round(" + index + ", 3) of " + rounds, hall.round(index, 3), due);
            }
        }
    }

    @Sentence(promise = 14, value = "`index`: 0 for the latest one, and so on")
    static void roundOfFirstAndLast() {
        GuessingHall hall = played(6);
        Checks.due("round(0, 3)", hall.round(0, 3), 6);
        Checks.due("round(5, 3)", hall.round(5, 3), 1);
        hall.begin(9);
        Checks.due("round(0, 3): the one of now is not over", hall.round(0, 3), 6);
        Checks.due("round(5, 3): the one of now is not over", hall.round(5, 3), 1);
    }

    @Sentence(promise = 14, value = "`what`: 0: its word; 1: who won, 5 if it was the house; 2: its misses; 3: its stake")
    static void roundOfEachThing() {
        GuessingHall hall = Checks.hall(Checks.list(16, 1), 99, 99, 99, 99, 99);
        hall.set(0, 12);
        Draws.prepare(hall, 15);
        hall.begin(50);
        for (int misses = 0; misses < 4; misses++) {
            hall.tell(0);
        }
        hall.tell(15);
        Draws.prepare(hall, 0);
        hall.begin(1);
        for (int misses = 0; misses < 12; misses++) {
            hall.tell(1);
        }
        Draws.prepare(hall, 1);
        hall.begin(2);
        hall.undo();
        hall.begin(2);
        hall.tell(1);
        int[][] due = {{1, 2, 0, 2}, {0, 5, 12, 1}, {15, 4, 4, 50}};
        for (int index = 0; index < 3; index++) {
            for (int what = 0; what < 4; what++) {
                Checks.due("round(" + index + ", " + what + ")", hall.round(index, what), due[index][what]);
            }
        }
    }

    @Sentence(promise = 14, value = "INVALID_ARGUMENT if index is negative or what is out of range")
    static void roundOutOfRange() {
        GuessingHall hall = played(2);
        Checks.due("round(-1, 0)", hall.round(-1, 0), Checks.INVALID);
        Checks.due("round(lowest, 0)", hall.round(Integer.MIN_VALUE, 0), Checks.INVALID);
        Checks.due("round(0, -1)", hall.round(0, -1), Checks.INVALID);
        Checks.due("round(0, 4)", hall.round(0, 4), Checks.INVALID);
        Checks.due("round(2, 4)", hall.round(2, 4), Checks.INVALID);
        Checks.due("round(0, 4) of none", played(0).round(0, 4), Checks.INVALID);
        Checks.due("round(-1, 0) of none", played(0).round(-1, 0), Checks.INVALID);
        for (int far : Checks.FAR) {
            Checks.due("round(0, " + far + ")", hall.round(0, far), Checks.INVALID);
        }
    }

    @Sentence(promise = 14, value = "NOT_FOUND if there are not so many")
    static void roundOfNone() {
        for (int what = 0; what < 4; what++) {
            Checks.due("round(0, " + what + ") of none", new GuessingHall().round(0, what), Checks.NOT_FOUND);
            Checks.due("round(0, " + what + ") in the first one", IN_ROUND.get().round(0, what), Checks.NOT_FOUND);
            Checks.due("round(1, " + what + ") of one", played(1).round(1, what), Checks.NOT_FOUND);
            Checks.due("round(6, " + what + ") of seven", played(7).round(6, what), Checks.NOT_FOUND);
            Checks.due("round(highest, " + what + ")", played(7).round(Integer.MAX_VALUE, what), Checks.NOT_FOUND);
        }
    }

    // ---- Promise 15: count

    @Sentence(promise = 15, value = "`what`: 0: words; 1: players; 2: 1 in a round, otherwise 0; "
        + "3: the player whose turn it is; 4: the pot; 5: misses of the round; 6: letters guessed in it, as a set; "
        + "7: places that are open; 8: rounds so far, that of now too; 9: coins of the house; "
        + "10: the number of the draw; 11: the sum of all weights; 12: states in the history; "
        + "13: the length of the text; 14: 1 if there is a snapshot, otherwise 0; 15: the setting 0")
    static void countOfEachThing() {
        GuessingHall empty = new GuessingHall();
        int[] least = {0, 0, 0, -4, -4, -4, -4, -4, 0, 0, 1, 0, 0, 0, 0, 7};
        dueCounts("of an empty hall", empty, least);
        GuessingHall full = Checks.hall(Checks.list(16, 99), 999, 999, 999, 999, 999);
        full.set(0, 12);
        full.begin(50);
        for (int letter = 0; letter < 12; letter++) {
            full.tell(full.wordOf(0, 3) == 1 ? 1 : 0);
        }
        Draws.prepare(full, 15);
        full.begin(50);
        full.guess(15);
        full.guess(0);
        full.guess(25);
        full.keep();
        int drawn = 15 * 99 * 65536;
        int[] most = {16, 5, 1, 3, 249, 2, 1 << 25 | 1 << 15 | 1, 1, 2, 250, drawn, 1584, 4, 96, 1, 12};
        dueCounts("of a full hall", full, most);
    }

    private static void dueCounts(String when, GuessingHall hall, int... counts) {
        for (int what = 0; what < counts.length; what++) {
            Checks.due("count(" + what + ") " + when, hall.count(what), counts[what]);
        }
    }

    @Sentence(promise = 15, value = "INVALID_ARGUMENT if what is out of range")
    static void countOutOfRange() {
        for (Supplier<GuessingHall> made : List.of(READY, IN_ROUND)) {
            GuessingHall hall = made.get();
            Checks.due("count(-1)", hall.count(-1), Checks.INVALID);
            Checks.due("count(16)", hall.count(16), Checks.INVALID);
            for (int far : Checks.FAR) {
                Checks.due("count(" + far + ")", hall.count(far), Checks.INVALID);
            }
        }
    }

    @Sentence(promise = 15, value = "NOT_FOUND for 3 to 7 without a round")
    static void countWithoutARound() {
        GuessingHall before = READY.get();
        GuessingHall in = IN_ROUND.get();
        GuessingHall behind = OVER.get();
        int[] dueIn = {0, 6, 0, 0, 0};
        for (int what = 3; what <= 7; what++) {
            Checks.due("count(" + what + ") before one", before.count(what), Checks.NOT_FOUND);
            Checks.due("count(" + what + ") in one", in.count(what), dueIn[what - 3]);
            Checks.due("count(" + what + ") behind one", behind.count(what), Checks.NOT_FOUND);
        }
        Checks.due("count(2) before one", before.count(2), 0);
        Checks.due("count(8) before one", before.count(8), 0);
        Checks.due("count(2) behind one", behind.count(2), 0);
        Checks.due("count(8) behind one", behind.count(8), 1);
    }
}
