import java.util.function.Supplier;
import java.util.function.ToIntFunction;

/** Promises 20 to 22: keep, restore, undo; and what the history records. */
public final class SnapshotTest {
    private static final String LIST = "abc*5;abd*99;ce*3;";

    public static void main(String[] args) {
        keep();
        restore();
        restoreOfARound();
        undo();
        historyOfFour();
        whatIsNoChange();
        eachChangeIsUndone();
        eachChangeIsRestored();
        Checks.finish();
    }

    private static GuessingHall ready() {
        GuessingHall hall = Checks.hall(LIST, 30, 40, 50);
        hall.set(0, 3);
        hall.begin(2);
        hall.guess(0);
        hall.tell(0);
        hall.tell(1);
        return hall;
    }

    private static GuessingHall inRound() {
        GuessingHall hall = ready();
        hall.begin(3);
        hall.guess(25);
        hall.whisper(1, 2, 3);
        return hall;
    }

    private static void keep() {
        GuessingHall hall = ready();
        Checks.due("count(14)", hall.count(14), 0);
        Checks.due("keep()", hall.keep(), 3);
        Checks.due("count(14)", hall.count(14), 1);
        hall.seat(7);
        Checks.due("keep() again", hall.keep(), 4);
        hall.seat(8);
        Checks.due("restore() of the latest one", hall.restore(), 4);
        Checks.due("keep() in a new object", new GuessingHall().keep(), 0);
    }

    private static void restore() {
        GuessingHall hall = new GuessingHall();
        Checks.due("restore() without a snapshot", hall.restore(), Checks.NOT_POSSIBLE);
        Checks.due("count(12)", hall.count(12), 0);
        hall.seat(5);
        hall.keep();
        hall.seat(6);
        hall.type(97);
        Checks.due("restore()", hall.restore(), 1);
        Checks.due("count(14): it stays", hall.count(14), 1);
        Checks.due("count(13): the text is not of it", hall.count(13), 1);
        Checks.due("count(12): a change", hall.count(12), 3);
        Checks.due("seat(9)", hall.seat(9), 1);
        Checks.due("restore() once more", hall.restore(), 1);
        Checks.due("playerOf(1, 0)", hall.playerOf(1, 0), Checks.INVALID);
        Checks.due("undo()", hall.undo(), 3);
        Checks.due("playerOf(1, 0)", hall.playerOf(1, 0), 9);
        Checks.due("undo()", hall.undo(), 2);
        Checks.due("undo() of restore()", hall.undo(), 1);
        Checks.due("playerOf(1, 0)", hall.playerOf(1, 0), 6);
        Checks.refused("restore() without a snapshot", Checks.NOT_POSSIBLE, SnapshotTest::ready, x -> x.restore());
    }

    private static void restoreOfARound() {
        Supplier<GuessingHall> kept = Checks.after(SnapshotTest::inRound, x -> x.keep());
        Supplier<GuessingHall> gone = Checks.after(kept, x -> {
            x.guess(24);
            x.guess(23);
            x.set(0, 12);
            Checks.type(x, "zz*1;");
            x.read();
            x.seed(77);
            x.begin(1);
            return x.guess(25);
        });
        Supplier<GuessingHall> back = Checks.after(gone, x -> x.restore());
        Checks.isTrue("restore() brings the round back", Checks.viewOfState(back).equals(Checks.viewOfState(kept)));
        Supplier<GuessingHall> undone = Checks.after(back, x -> x.undo());
        Checks.isTrue("undo() of it", Checks.viewOfState(undone).equals(Checks.viewOfState(gone)));
    }

    private static void undo() {
        Checks.refused("undo() of nothing", Checks.NOT_POSSIBLE, GuessingHall::new, x -> x.undo());
        GuessingHall hall = Checks.hall("", 1, 2);
        Checks.due("undo()", hall.undo(), 1);
        Checks.due("count(1)", hall.count(1), 1);
        Checks.due("seat(9)", hall.seat(9), 1);
        Checks.due("count(12)", hall.count(12), 2);
        Checks.due("undo()", hall.undo(), 1);
        Checks.due("undo()", hall.undo(), 0);
        Checks.due("count(1)", hall.count(1), 0);
        Checks.due("undo()", hall.undo(), Checks.NOT_POSSIBLE);
        hall.keep();
        hall.type(97);
        hall.seat(1);
        hall.type(98);
        hall.keep();
        Checks.due("undo()", hall.undo(), 0);
        Checks.due("count(13): the text is as it was", hall.count(13), 2);
        Checks.due("restore(): the snapshot is as it was", hall.restore(), 1);
    }

    private static void historyOfFour() {
        GuessingHall hall = new GuessingHall();
        for (int number = 1; number <= 11; number++) {
            hall.seed(number * 10);
            Checks.due("count(12) behind " + number, hall.count(12), Math.min(number, 4));
        }
        for (int left = 3; left >= 0; left--) {
            Checks.due("undo()", hall.undo(), left);
            Checks.due("count(10)", hall.count(10), 70 + 10 * left);
        }
        Checks.due("undo()", hall.undo(), Checks.NOT_POSSIBLE);
        Checks.due("count(10)", hall.count(10), 70);
        hall.seed(1);
        hall.seed(2);
        Checks.due("undo()", hall.undo(), 1);
        hall.seed(3);
        Checks.due("undo()", hall.undo(), 1);
        Checks.due("undo()", hall.undo(), 0);
        Checks.due("count(10)", hall.count(10), 70);
    }

    private static void whatIsNoChange() {
        GuessingHall hall = inRound();
        hall.undo();
        hall.undo();
        hall.undo();
        Checks.due("count(12)", hall.count(12), 1);
        hall.keep();
        hall.type(97);
        hall.fault(0);
        hall.clearText();
        hall.next();
        hall.begin(0);
        hall.seed(-1);
        hall.restore();
        Checks.due("count(12)", hall.count(12), 2);
        hall.begin(1);
        Checks.due("count(12)", hall.count(12), 3);
        hall.fits(0);
        hall.sharpest();
        hall.open(0);
        hall.letterOf(0, 0);
        hall.seat(1);
        hall.guess(26);
        hall.tell(9);
        hall.read();
        Checks.due("count(12)", hall.count(12), 3);
    }

    /** The changes that are possible without a round, or in one. */
    private static ToIntFunction<GuessingHall> change(boolean running, int number) {
        switch (number) {
            case 0:
                return running ? x -> x.guess(0) : x -> x.word(1, 44);
            case 1:
                return running ? x -> x.guess(24) : x -> x.seat(5);
            case 2:
                return running ? x -> x.tell(0) : x -> x.set(0, 9);
            case 3:
                return running ? x -> x.tell(1) : x -> x.begin(4);
            case 4:
                return running ? x -> x.whisper(1, 0, 8) : x -> x.read();
            case 5:
                return x -> x.lend(2, 0, 3);
            default:
                return x -> x.seed(99);
        }
    }

    private static void eachChangeIsUndone() {
        for (int number = 0; number <= 6; number++) {
            for (int running = 0; running <= 1; running++) {
                Supplier<GuessingHall> made = running == 1 ? SnapshotTest::inRound : SnapshotTest::ready;
                ToIntFunction<GuessingHall> change = change(running == 1, number);
                Supplier<GuessingHall> changed = Checks.after(made, change);
                Supplier<GuessingHall> undone = Checks.after(changed, x -> x.undo());
                String what = "change " + number + (running == 1 ? " in a round" : "");
                Checks.isTrue(what + " is no error", change.applyAsInt(made.get()) >= 0);
                Checks.isTrue(what + " changes", !Checks.viewOfState(changed).equals(Checks.viewOfState(made)));
                Checks.isTrue(what + " is undone", Checks.viewOfState(undone).equals(Checks.viewOfState(made)));
            }
        }
    }

    private static void eachChangeIsRestored() {
        for (int number = 0; number <= 6; number++) {
            for (int running = 0; running <= 1; running++) {
                Supplier<GuessingHall> made = running == 1 ? SnapshotTest::inRound : SnapshotTest::ready;
                ToIntFunction<GuessingHall> change = change(running == 1, number);
                Supplier<GuessingHall> restored = Checks.after(made, x -> {
                    x.keep();
                    change.applyAsInt(x);
                    return x.restore();
                });
                Checks.isTrue("change " + number + " is gone by restore()",
                    Checks.viewOfState(restored).equals(Checks.viewOfState(made)));
            }
        }
    }
}
