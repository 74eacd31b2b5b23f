import java.util.LinkedHashMap;
import java.util.List;
import java.util.Map;
import java.util.function.Supplier;
import java.util.function.ToIntFunction;

/** What is told of the whole hall: the calls of an object, letters, sets, and errors. */
final class HallEdges {
    private static final String LIST = "abc*5;abd*99;ce*3;";
    private static final Supplier<GuessingHall> EMPTY = GuessingHall::new;
    private static final Supplier<GuessingHall> STILL = HallEdges::still;
    private static final Supplier<GuessingHall> IN_ROUND = HallEdges::inRound;

    private HallEdges() {
    }

    /** Without a round, with a full bench, a full text with a fault, a snapshot of another state, and a history of four. */
    private static GuessingHall still() {
        GuessingHall hall = Checks.hall(LIST, 30, 40, 50, 60);
        Draws.prepare(hall, 1);
        hall.begin(2);
        hall.guess(0);
        hall.tell(0);
        hall.tell(1);
        hall.keep();
        hall.seat(70);
        hall.lend(1, 2, 3);
        Checks.type(hall, "!".repeat(120));
        return hall;
    }

    private static GuessingHall inRound() {
        GuessingHall hall = still();
        Draws.prepare(hall, 1);
        hall.begin(1);
        hall.guess(0);
        hall.whisper(0, 1, 7);
        hall.guess(25);
        return hall;
    }

    // ---- What it is

    @Sentence(promise = {1, 2, 3, 4, 5, 6, 7, 8, 9, 10, 11, 12, 13, 14, 15, 16, 17, 18, 19, 20, 21, 22, 23, 24, 25, 26},
        under = "What it is", value = "An object is used for at most 512 calls after it has been made")
    static void allTheCallsOfAnObject() {
        GuessingHall seeds = new GuessingHall();
        for (int call = 1; call <= 512; call++) {
            Checks.due("call " + call + ", seed(" + call + ")", seeds.seed(call), call == 1 ? 1 : call - 1);
        }
        GuessingHall rounds = Checks.hall("ab*1;", 999);
        int calls = 8;
        for (int round = 1; calls + 3 <= 512; round++) {
            Checks.due("begin(50) of round " + round, rounds.begin(50), 2);
            Checks.due("count(8) of round " + round, rounds.count(8), round);
            Checks.due("tell(0) of round " + round, rounds.tell(0), 1);
            calls += 3;
        }
        GuessingHall sharp = Draws.round(Checks.list(16, 99), 0, 1, 9);
        for (int call = 0; call < 300; call++) {
            Checks.due("sharpest()", sharp.sharpest(), 0);
        }
        GuessingHall kept = new GuessingHall();
        for (int call = 0; call < 256; call++) {
            Checks.due("keep()", kept.keep(), 0);
            Checks.due("restore()", kept.restore(), 0);
        }
    }

    // ---- Terms

    @Sentence(promise = {8, 10, 11, 13, 16}, under = "Terms", value = "Letters are told as 0 to 25, for a to z")
    static void lettersFromFirstToLast() {
        for (int letter = 0; letter <= 25; letter++) {
            String word = "" + (char) ('a' + letter) + (char) ('a' + (letter + 1) % 26);
            GuessingHall hall = Draws.round(word + "*1;", 0, 1, 5, 5);
            Checks.due("wordOf(0, 10) of " + word, hall.wordOf(0, 10), letter);
            Checks.due("whisper(0, 1, " + letter + ")", hall.whisper(0, 1, letter), 26);
            Checks.due("playerOf(1, 4)", hall.playerOf(1, 4), letter);
            Checks.due("guess(" + letter + ") of " + word, hall.guess(letter), 1);
            Checks.due("open(0) of " + word, hall.open(0), letter);
            Checks.due("fits(3) behind it", hall.fits(3), (letter + 1) % 26);
        }
    }

    @Sentence(promise = {11, 15, 16}, under = "Terms",
        value = "sets of letters, words or players are told as bits: bit k is for number k.")
    static void setsOfFirstAndLast() {
        GuessingHall hall = Draws.round("azm*1;".concat(Checks.list(15, 1)), 0, 1, 9);
        Checks.due("wordOf(0, 2)", hall.wordOf(0, 2), 1 << 25 | 1 << 12 | 1);
        Checks.due("wordOf(1, 2)", hall.wordOf(1, 2), 1 << 23 | 1);
        Checks.due("count(6) of no letter", hall.count(6), 0);
        Checks.due("fits(0) of the first word", hall.fits(0), 1);
        hall.guess(25);
        Checks.due("count(6) of z", hall.count(6), 1 << 25);
        hall.guess(0);
        Checks.due("count(6) of a and z", hall.count(6), 1 << 25 | 1);
        hall.tell(0);
        Draws.prepare(hall, 15);
        hall.begin(1);
        Checks.due("fits(0) of all but the first", hall.fits(0), 65534);
        hall.guess('o' - 'a');
        Checks.due("fits(0) of the last one", hall.fits(0), 1 << 15);
    }

    // ---- Changes and errors

    @Sentence(promise = 15, under = "Changes and errors",
        value = "`INVALID_ARGUMENT = -1`: An argument is out of its range, or there is no such word or player.")
    static void theInvalidArgument() {
        Checks.due("INVALID_ARGUMENT", GuessingHall.INVALID_ARGUMENT, -1);
        Checks.due("count(16)", new GuessingHall().count(16), -1);
        Checks.due("wordOf(0, 0)", new GuessingHall().wordOf(0, 0), -1);
        Checks.due("playerOf(0, 0)", new GuessingHall().playerOf(0, 0), -1);
    }

    @Sentence(promise = 19, under = "Changes and errors",
        value = "`NOT_POSSIBLE = -2`: The call is not possible in the present state.")
    static void theNotPossible() {
        Checks.due("NOT_POSSIBLE", GuessingHall.NOT_POSSIBLE, -2);
        Checks.due("next()", new GuessingHall().next(), -2);
    }

    @Sentence(promise = {23, 3}, under = "Changes and errors",
        value = "`LIMIT_REACHED = -3`: A fixed limit has been reached.")
    static void theLimitReached() {
        Checks.due("LIMIT_REACHED", GuessingHall.LIMIT_REACHED, -3);
        Checks.due("type(97)", STILL.get().type('a'), -3);
        Checks.due("seat(1)", STILL.get().seat(1), -3);
    }

    @Sentence(promise = 14, under = "Changes and errors", value = "`NOT_FOUND = -4`: There is no such value.")
    static void theNotFound() {
        Checks.due("NOT_FOUND", GuessingHall.NOT_FOUND, -4);
        Checks.due("round(0, 0)", new GuessingHall().round(0, 0), -4);
    }

    @Sentence(promise = {2, 3, 4, 5, 7, 8, 9, 10, 13, 16, 17}, under = "Changes and errors",
        value = "If several errors apply to a call, INVALID_ARGUMENT is returned rather than NOT_POSSIBLE")
    static void invalidRatherThanNotPossible() {
        GuessingHall in = IN_ROUND.get();
        Checks.due("word(3, 5) in a round", in.word(3, 5), Checks.INVALID);
        Checks.due("word(0, 0) in a round", in.word(0, 0), Checks.INVALID);
        Checks.due("seat(1000) in a round", in.seat(1000), Checks.INVALID);
        Checks.due("set(0, 13) in a round", in.set(0, 13), Checks.INVALID);
        Checks.due("set(1, 5) in a round", in.set(1, 5), Checks.INVALID);
        Checks.due("begin(0) in a round", in.begin(0), Checks.INVALID);
        Checks.due("lend(0, 0, 999) of less", in.lend(0, 0, 999), Checks.INVALID);
        Checks.due("lend(0, 5, 999) of less", in.lend(0, 5, 999), Checks.INVALID);
        Checks.due("lend(0, 1, 1000) of less", in.lend(0, 1, 1000), Checks.INVALID);
        Checks.due("whisper(0, 2, 26) not beside", in.whisper(0, 2, 26), Checks.INVALID);
        Checks.due("whisper(0, 5, 1) not beside", in.whisper(0, 5, 1), Checks.INVALID);
        Checks.due("whisper(4, 5, 0), which is guessed", in.whisper(4, 5, 0), Checks.INVALID);
        Checks.due("letterOf(0, 3), which is guessed", in.letterOf(0, 3), Checks.INVALID);
        GuessingHall still = STILL.get();
        Checks.due("begin(51) of less", still.begin(51), Checks.INVALID);
        Checks.due("guess(26) without a round", still.guess(26), Checks.INVALID);
        Checks.due("tell(3) without a round", still.tell(3), Checks.INVALID);
        Checks.due("whisper(0, 1, 26) without a round", still.whisper(0, 1, 26), Checks.INVALID);
        Checks.due("whisper(4, 5, 1) without a round", still.whisper(4, 5, 1), Checks.INVALID);
        Checks.due("open(-1) without a round", still.open(-1), Checks.INVALID);
        Checks.due("fits(5) without a round", still.fits(5), Checks.INVALID);
        Checks.due("letterOf(26, 0) without a round", still.letterOf(26, 0), Checks.INVALID);
        Checks.due("letterOf(0, 3) without a round", still.letterOf(0, 3), Checks.INVALID);
        Checks.due("begin(0) without words", EMPTY.get().begin(0), Checks.INVALID);
        Checks.due("begin(51) without players", EMPTY.get().begin(51), Checks.INVALID);
    }

    @Sentence(promise = 3, under = "Changes and errors", value = "NOT_POSSIBLE rather than LIMIT_REACHED")
    static void notPossibleRatherThanLimit() {
        Checks.due("seat(1) in a round with 5", IN_ROUND.get().seat(1), Checks.NOT_POSSIBLE);
        Checks.due("seat(1) without a round with 5", STILL.get().seat(1), Checks.LIMIT);
        Checks.due("seat(1000) without a round with 5", STILL.get().seat(1000), Checks.INVALID);
        Checks.due("type(127) behind 120", STILL.get().type(127), Checks.INVALID);
    }

    /** No call can have both of these two; but each of the other errors stands before NOT_FOUND too. */
    @Sentence(promise = {11, 12, 13, 14, 15, 25}, under = "Changes and errors",
        value = "and LIMIT_REACHED rather than NOT_FOUND.")
    static void othersRatherThanNotFound() {
        GuessingHall still = STILL.get();
        Checks.due("wordOf(3, 4) without a round", still.wordOf(3, 4), Checks.INVALID);
        Checks.due("playerOf(5, 4) without a hint", still.playerOf(5, 4), Checks.INVALID);
        Checks.due("open(99) without a round", still.open(99), Checks.NOT_POSSIBLE);
        Checks.due("round(9, 4) of one", still.round(9, 4), Checks.INVALID);
        Checks.due("round(9, -1) of one", still.round(9, -1), Checks.INVALID);
        GuessingHall list = Checks.typed("ab*1;");
        Checks.due("fault(2) of no fault", list.fault(2), Checks.INVALID);
        Checks.due("fault(-1) of no fault", list.fault(-1), Checks.INVALID);
    }

    private static Map<String, ToIntFunction<GuessingHall>> callsInAnyState() {
        Map<String, ToIntFunction<GuessingHall>> calls = new LinkedHashMap<>();
        calls.put("word(99, 1)", x -> x.word(99, 1));
        calls.put("word(0, 100)", x -> x.word(0, 100));
        calls.put("seat(-1)", x -> x.seat(-1));
        calls.put("seat(9)", x -> x.seat(9));
        calls.put("lend(0, 0, 1)", x -> x.lend(0, 0, 1));
        calls.put("lend(0, 1, 999)", x -> x.lend(0, 1, 999));
        calls.put("set(0, 13)", x -> x.set(0, 13));
        calls.put("seed(-1)", x -> x.seed(-1));
        calls.put("begin(0)", x -> x.begin(0));
        calls.put("begin(50)", x -> x.begin(50));
        calls.put("guess(26)", x -> x.guess(26));
        calls.put("guess(0)", x -> x.guess(0));
        calls.put("tell(99)", x -> x.tell(99));
        calls.put("whisper(0, 2, 1)", x -> x.whisper(0, 2, 1));
        calls.put("whisper(0, 1, 0)", x -> x.whisper(0, 1, 0));
        calls.put("whisper(0, 1, 26)", x -> x.whisper(0, 1, 26));
        calls.put("wordOf(0, 99)", x -> x.wordOf(0, 99));
        calls.put("playerOf(9, 0)", x -> x.playerOf(9, 0));
        calls.put("open(-1)", x -> x.open(-1));
        calls.put("open(8)", x -> x.open(8));
        calls.put("round(0, 4)", x -> x.round(0, 4));
        calls.put("round(9, 0)", x -> x.round(9, 0));
        calls.put("count(16)", x -> x.count(16));
        calls.put("fits(5)", x -> x.fits(5));
        calls.put("letterOf(0, 0)", x -> x.letterOf(0, 0));
        calls.put("type(97)", x -> x.type('a'));
        calls.put("type(127)", x -> x.type(127));
        calls.put("fault(2)", x -> x.fault(2));
        calls.put("read()", x -> x.read());
        return calls;
    }

    private static Map<String, ToIntFunction<GuessingHall>> callsInARound() {
        Map<String, ToIntFunction<GuessingHall>> calls = callsInAnyState();
        calls.put("word(0, 5)", x -> x.word(0, 5));
        calls.put("set(0, 5)", x -> x.set(0, 5));
        calls.put("begin(1)", x -> x.begin(1));
        calls.put("next()", x -> x.next());
        return calls;
    }

    private static Map<String, ToIntFunction<GuessingHall>> callsWithoutARound() {
        Map<String, ToIntFunction<GuessingHall>> calls = callsInAnyState();
        calls.put("guess(3)", x -> x.guess(3));
        calls.put("tell(0)", x -> x.tell(0));
        calls.put("whisper(0, 1, 3)", x -> x.whisper(0, 1, 3));
        calls.put("wordOf(0, 4)", x -> x.wordOf(0, 4));
        calls.put("playerOf(0, 4)", x -> x.playerOf(0, 4));
        calls.put("count(3)", x -> x.count(3));
        calls.put("fits(0)", x -> x.fits(0));
        calls.put("letterOf(3, 0)", x -> x.letterOf(3, 0));
        calls.put("sharpest()", x -> x.sharpest());
        return calls;
    }

    private static Map<String, ToIntFunction<GuessingHall>> callsOnAnEmptyHall() {
        Map<String, ToIntFunction<GuessingHall>> calls = callsWithoutARound();
        calls.remove("seat(9)");
        calls.remove("type(97)");
        calls.put("word(0, 1)", x -> x.word(0, 1));
        calls.put("begin(1)", x -> x.begin(1));
        calls.put("next()", x -> x.next());
        calls.put("restore()", x -> x.restore());
        calls.put("undo()", x -> x.undo());
        return calls;
    }

    /** The state, the text, the snapshot and each state of the history are looked at. */
    private static void dueNoChange(Supplier<GuessingHall> made, Map<String, ToIntFunction<GuessingHall>> calls) {
        for (Map.Entry<String, ToIntFunction<GuessingHall>> call : calls.entrySet()) {
            String what = call.getKey();
            Supplier<GuessingHall> called = Checks.after(made, call.getValue());
            Checks.isTrue(what + " is an error", call.getValue().applyAsInt(made.get()) < 0);
            Checks.isTrue(what + " leaves what there is", Checks.view(called).equals(Checks.view(made)));
            Checks.isTrue(what + " leaves the snapshot", Checks.view(Checks.after(called, x -> x.restore()))
                .equals(Checks.view(Checks.after(made, x -> x.restore()))));
            for (int undone = 1; undone <= 4; undone++) {
                int times = undone;
                ToIntFunction<GuessingHall> undo = x -> undo(x, times);
                Checks.isTrue(what + " leaves the state " + undone + " of the history",
                    Checks.view(Checks.after(called, undo)).equals(Checks.view(Checks.after(made, undo))));
            }
        }
    }

    private static int undo(GuessingHall hall, int times) {
        int left = 0;
        for (int time = 0; time < times; time++) {
            left = hall.undo();
        }
        return left;
    }

    @Sentence(promise = {2, 3, 4, 5, 6, 7, 8, 9, 10, 11, 12, 13, 14, 15, 16, 17, 18, 19, 21, 22, 23, 25, 26},
        under = "Changes and errors", value = "A call that returns an error changes nothing.")
    static void anErrorChangesNothing() {
        dueNoChange(IN_ROUND, callsInARound());
        dueNoChange(STILL, callsWithoutARound());
        dueNoChange(EMPTY, callsOnAnEmptyHall());
    }

    @Sentence(promise = {2, 4, 9, 10, 11, 12}, under = "Changes and errors",
        value = "If there is no word or player with a certain number, this is INVALID_ARGUMENT.")
    static void noSuchWordOrPlayer() {
        for (Supplier<GuessingHall> made : List.of(EMPTY, STILL, IN_ROUND)) {
            GuessingHall hall = made.get();
            for (int word : new int[] {-1, hall.count(0), 16, Integer.MAX_VALUE, Integer.MIN_VALUE}) {
                Checks.due("word(" + word + ", 1)", hall.word(word, 1), Checks.INVALID);
                Checks.due("tell(" + word + ")", hall.tell(word), Checks.INVALID);
                Checks.due("wordOf(" + word + ", 0)", hall.wordOf(word, 0), Checks.INVALID);
                Checks.due("wordOf(" + word + ", 4)", hall.wordOf(word, 4), Checks.INVALID);
            }
            for (int player : new int[] {-1, hall.count(1), 5, Integer.MAX_VALUE, Integer.MIN_VALUE}) {
                Checks.due("lend(" + player + ", 0, 1)", hall.lend(player, 0, 1), Checks.INVALID);
                Checks.due("lend(0, " + player + ", 1)", hall.lend(0, player, 1), Checks.INVALID);
                Checks.due("whisper(" + player + ", 0, 1)", hall.whisper(player, 0, 1), Checks.INVALID);
                Checks.due("whisper(0, " + player + ", 1)", hall.whisper(0, player, 1), Checks.INVALID);
                Checks.due("playerOf(" + player + ", 0)", hall.playerOf(player, 0), Checks.INVALID);
                Checks.due("playerOf(" + player + ", 4)", hall.playerOf(player, 4), Checks.INVALID);
            }
        }
        GuessingHall undone = Checks.hall("ab*1;", 5);
        undone.undo();
        Checks.due("playerOf(0, 0) behind an undone seat()", undone.playerOf(0, 0), Checks.INVALID);
        undone.undo();
        Checks.due("wordOf(0, 0) behind an undone read()", undone.wordOf(0, 0), Checks.INVALID);
    }
}
