import java.util.function.Supplier;
import java.util.function.ToIntFunction;

/** What is told of the history under Changes and errors, and promises 20 to 22. */
final class SnapshotEdges {
    private static final String LIST = "abc*5;abd*99;ce*3;";
    private static final Supplier<GuessingHall> READY = () -> Checks.hall(LIST, 30, 40, 50);
    private static final Supplier<GuessingHall> IN_ROUND = () -> Draws.round(LIST, 0, 3, 30, 40, 50);
    private static final int CHANGES = 12;

    private SnapshotEdges() {
    }

    /** A change by its number: 0 to 4 are possible without a round, 5 to 8 in one, the others in both. */
    private static ToIntFunction<GuessingHall> change(int number) {
        switch (number) {
            case 0:
                return x -> x.word(1, 44);
            case 1:
                return x -> x.seat(5);
            case 2:
                return x -> x.set(0, 9);
            case 3:
                return x -> x.begin(4);
            case 4:
                return x -> x.read();
            case 5:
                return x -> x.guess(0);
            case 6:
                return x -> x.tell(1);
            case 7:
                return x -> x.whisper(2, 1, 8);
            case 8:
                return x -> x.guess(20);
            case 9:
                return x -> x.seed(99);
            case 10:
                return x -> x.lend(2, 0, 3);
            default:
                return x -> x.restore();
        }
    }

    private static boolean isOfARound(int number) {
        return number >= 5 && number <= 8;
    }

    /** A hall in which this change is possible, with a text, a snapshot of another state, and two states in the history. */
    private static GuessingHall beforeChange(int number) {
        GuessingHall hall = isOfARound(number) ? IN_ROUND.get() : READY.get();
        Checks.type(hall, "zz*9;");
        hall.keep();
        undoAll(hall);
        hall.restore();
        hall.lend(0, 1, 1);
        return hall;
    }

    private static int undoAll(GuessingHall hall) {
        int undone = 0;
        while (undone < 10 && hall.undo() >= 0) {
            undone++;
        }
        return undone;
    }

    // ---- Changes and errors

    @Sentence(promise = {22, 15}, under = "Changes and errors", value = "The changes are the calls of word, seat, lend, "
        + "set, seed, begin, guess, tell, whisper, restore and read that return no error.")
    static void whatIsAChange() {
        for (int number = 0; number < CHANGES; number++) {
            GuessingHall hall = beforeChange(number);
            Checks.due("count(12) before change " + number, hall.count(12), 2);
            Checks.isTrue("change " + number + " is no error", change(number).applyAsInt(hall) >= 0);
            Checks.due("count(12) behind change " + number, hall.count(12), 3);
            callWhatIsNoChange(hall);
            Checks.due("count(12) behind calls that are no changes", hall.count(12), 3);
        }
        GuessingHall empty = new GuessingHall();
        Checks.due("restore() without a snapshot", empty.restore(), Checks.NOT_POSSIBLE);
        Checks.due("count(12) behind it", empty.count(12), 0);
    }

    private static void callWhatIsNoChange(GuessingHall hall) {
        hall.word(9, 1);
        hall.seat(-1);
        hall.lend(0, 0, 1);
        hall.lend(0, 1, 999);
        hall.set(0, 0);
        hall.seed(-1);
        hall.begin(0);
        hall.begin(50);
        hall.guess(26);
        hall.tell(9);
        hall.whisper(0, 2, 1);
        hall.keep();
        hall.clearText();
        hall.type('a');
        hall.fault(0);
        hall.read();
        hall.next();
        hall.fits(0);
        hall.letterOf(3, 2);
        hall.sharpest();
        hall.open(0);
        hall.round(0, 0);
    }

    @Sentence(promise = {22, 15}, under = "Changes and errors", value = "A history of at most 4 states is kept")
    static void fourStates() {
        for (int changes = 0; changes <= 9; changes++) {
            GuessingHall hall = new GuessingHall();
            for (int number = 0; number < changes; number++) {
                hall.seed(number);
            }
            Checks.due("count(12) behind " + changes, hall.count(12), Math.min(changes, 4));
            Checks.due("how many can be undone of " + changes, undoAll(hall), Math.min(changes, 4));
        }
    }

    @Sentence(promise = 22, under = "Changes and errors",
        value = "each change records everything before it but the text and the snapshot")
    static void whatIsRecorded() {
        for (int number = 0; number < CHANGES; number++) {
            int one = number;
            Supplier<GuessingHall> made = () -> richHall(isOfARound(one));
            Supplier<GuessingHall> changed = Checks.after(made, change(number));
            Supplier<GuessingHall> undone = Checks.after(changed, x -> {
                x.type('q');
                x.keep();
                return x.undo();
            });
            Supplier<GuessingHall> restored = Checks.after(undone, x -> x.restore());
            Checks.isTrue("change " + number + " changes something",
                !Checks.viewOfState(changed).equals(Checks.viewOfState(made)));
            dueAlike("all before change " + number + " is back", undone, made);
            Checks.due("count(13): the text is as it was", undone.get().count(13), 6);
            dueAlike("the snapshot behind change " + number + " is as it was", restored, changed);
        }
    }

    /** A round that was, lost to the house; in the next one the word 1, a miss and two hints; a text, an old snapshot. */
    private static GuessingHall richHall(boolean inARound) {
        GuessingHall hall = READY.get();
        hall.keep();
        hall.set(0, 2);
        Draws.prepare(hall, 2);
        hall.begin(2);
        hall.guess(24);
        hall.guess(25);
        Draws.prepare(hall, 1);
        hall.begin(3);
        hall.guess(25);
        hall.whisper(0, 1, 2);
        hall.whisper(1, 2, 3);
        if (!inARound) {
            hall.tell(1);
        }
        Checks.type(hall, "zz*9;");
        return hall;
    }

    /** Alike in all that can be seen, also when the round, if there is one, is over and the next one begins. */
    private static void dueAlike(String what, Supplier<GuessingHall> one, Supplier<GuessingHall> other) {
        Checks.isTrue(what, Checks.viewOfState(one).equals(Checks.viewOfState(other)));
        ToIntFunction<GuessingHall> goOn = x -> {
            x.tell(0);
            x.tell(1);
            return x.begin(1);
        };
        Checks.isTrue(what + ", as it goes on",
            Checks.viewOfState(Checks.after(one, goOn)).equals(Checks.viewOfState(Checks.after(other, goOn))));
    }

    @Sentence(promise = 22, under = "Changes and errors", value = "if there are 5 states then, the oldest one is dropped")
    static void theOldestIsDropped() {
        GuessingHall hall = new GuessingHall();
        for (int number = 10; number <= 50; number += 10) {
            hall.seed(number);
        }
        for (int due = 40; due >= 10; due -= 10) {
            hall.undo();
            Checks.due("count(10)", hall.count(10), due);
        }
        Checks.due("undo() of the one that was dropped", hall.undo(), Checks.NOT_POSSIBLE);
        Checks.due("count(10)", hall.count(10), 10);
        for (int number = 20; number <= 70; number += 10) {
            hall.seed(number);
        }
        hall.undo();
        hall.undo();
        hall.seed(80);
        hall.seed(81);
        hall.seed(82);
        int[] due = {81, 80, 50, 40};
        for (int number : due) {
            hall.undo();
            Checks.due("count(10) once more", hall.count(10), number);
        }
        Checks.due("undo() of the ones that were dropped", hall.undo(), Checks.NOT_POSSIBLE);
    }

    // ---- Promise 20: keep

    @Sentence(promise = 20, value = "Takes a snapshot of the state, in place of the one that was.")
    static void keepInPlace() {
        GuessingHall hall = new GuessingHall();
        Checks.due("count(14) at first", hall.count(14), 0);
        hall.keep();
        Checks.due("count(14)", hall.count(14), 1);
        hall.seed(5);
        hall.keep();
        Checks.due("count(14) behind another one", hall.count(14), 1);
        hall.seed(6);
        hall.restore();
        Checks.due("count(10): the latest one", hall.count(10), 5);
        hall.undo();
        hall.undo();
        hall.undo();
        Checks.due("count(10) behind undo()", hall.count(10), 1);
        hall.restore();
        Checks.due("count(10): the latest one still", hall.count(10), 5);
        Supplier<GuessingHall> kept = Checks.after(IN_ROUND, x -> x.keep());
        Checks.isTrue("it leaves the state", Checks.viewOfState(kept).equals(Checks.viewOfState(IN_ROUND)));
    }

    @Sentence(promise = 20, value = "Returns how many players there are.")
    static void keepOfNoneToFive() {
        GuessingHall hall = new GuessingHall();
        for (int players = 0; players <= 5; players++) {
            Checks.due("keep()", hall.keep(), players);
            hall.seat(1);
        }
    }

    // ---- Promise 21: restore

    @Sentence(promise = 21, value = "Restores the state of the snapshot, which stays.")
    static void restoreTwice() {
        for (boolean inARound : new boolean[] {true, false}) {
            Supplier<GuessingHall> kept = Checks.after(() -> richHall(inARound), x -> x.keep());
            Supplier<GuessingHall> once = Checks.after(Checks.after(kept, SnapshotEdges::playOn), x -> x.restore());
            Supplier<GuessingHall> twice = Checks.after(Checks.after(once, SnapshotEdges::playOn), x -> x.restore());
            dueAlike("the state is back", once, kept);
            dueAlike("the state is back again", twice, kept);
            Checks.due("count(14)", twice.get().count(14), 1);
        }
    }

    /** Changes all that a state holds. */
    private static int playOn(GuessingHall hall) {
        hall.guess(0);
        hall.tell(1);
        Checks.type(hall, "zz*9;");
        hall.read();
        hall.set(0, 1);
        hall.seat(9);
        hall.begin(1);
        hall.whisper(0, 1, 7);
        hall.whisper(3, 2, 8);
        hall.lend(0, 3, 2);
        hall.guess(24);
        hall.begin(1);
        hall.whisper(2, 1, 9);
        return hall.guess(25);
    }

    @Sentence(promise = 21, value = "Returns how many players there are then")
    static void restoreOfNoneAndFive() {
        GuessingHall none = new GuessingHall();
        none.keep();
        none.seat(1);
        Checks.due("restore() of none", none.restore(), 0);
        GuessingHall five = Checks.hall("", 1, 2, 3, 4, 5);
        five.keep();
        five.undo();
        Checks.due("restore() of five", five.restore(), 5);
    }

    @Sentence(promise = 21, value = "NOT_POSSIBLE if there is none")
    static void restoreOfNothing() {
        Checks.refused("restore() in a new hall", Checks.NOT_POSSIBLE, GuessingHall::new, x -> x.restore());
        Checks.refused("restore() in a round", Checks.NOT_POSSIBLE, IN_ROUND, x -> x.restore());
        Supplier<GuessingHall> undone = Checks.after(READY, x -> x.undo());
        Checks.refused("restore() behind undo()", Checks.NOT_POSSIBLE, undone, x -> x.restore());
    }

    // ---- Promise 22: undo

    @Sentence(promise = 22, value = "Restores the latest state of the history, which is removed from it.")
    static void undoOneByOne() {
        GuessingHall hall = new GuessingHall();
        hall.seed(5);
        hall.seed(6);
        hall.seed(7);
        hall.undo();
        Checks.due("count(10) behind one", hall.count(10), 6);
        Checks.due("count(12) behind one", hall.count(12), 2);
        hall.seed(8);
        hall.undo();
        Checks.due("count(10) behind another change", hall.count(10), 6);
        hall.undo();
        Checks.due("count(10) behind two", hall.count(10), 5);
        hall.undo();
        Checks.due("count(10) behind three", hall.count(10), 1);
        Checks.due("count(12) behind three", hall.count(12), 0);
    }

    @Sentence(promise = 22, value = "Returns the number of states that are left in the history")
    static void undoTellsHowManyAreLeft() {
        GuessingHall hall = READY.get();
        Checks.due("count(12)", hall.count(12), 4);
        for (int left = 3; left >= 0; left--) {
            Checks.due("undo()", hall.undo(), left);
        }
    }

    @Sentence(promise = 22, value = "NOT_POSSIBLE if it is empty")
    static void undoOfNothing() {
        Checks.refused("undo() in a new hall", Checks.NOT_POSSIBLE, GuessingHall::new, x -> x.undo());
        Supplier<GuessingHall> undone = Checks.after(READY, SnapshotEdges::undoAll);
        Checks.refused("undo() behind all of them", Checks.NOT_POSSIBLE, undone, x -> x.undo());
        Supplier<GuessingHall> kept = Checks.after(GuessingHall::new, x -> x.keep());
        Checks.refused("undo() behind keep()", Checks.NOT_POSSIBLE, kept, x -> x.undo());
    }
}
