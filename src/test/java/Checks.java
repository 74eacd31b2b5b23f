import java.util.ArrayList;
import java.util.List;
import java.util.function.Supplier;
import java.util.function.ToIntFunction;

/** What the tests share: counting wrong answers, halls that stand ready, and looking at all that can be seen. */
final class Checks {
    static final int INVALID = -1;
    static final int NOT_POSSIBLE = -2;
    static final int LIMIT = -3;
    static final int NOT_FOUND = -4;

    /** Numbers far outside of every range that the document names. */
    static final int[] FAR = {Integer.MIN_VALUE, Integer.MIN_VALUE + 1, -1000, -11, -10, -1, 1000, 65536,
        Integer.MAX_VALUE - 10, Integer.MAX_VALUE};

    /** How many looks an object is used for: what comes before them has room in the 512 calls too. */
    private static final int LOOKS_OF_ONE_OBJECT = 128;
    private static final List<ToIntFunction<GuessingHall>> LOOKS_AT_STATE = looksAtState();

    private static int wrong = 0;
    private static int checked = 0;
    private static String about = "";

    private Checks() {
    }

    /** What the answers are due to from now on; it is told of each that is wrong. */
    static void about(String words) {
        about = words;
    }

    static int checkedSoFar() {
        return checked;
    }

    static void due(String what, long got, long want) {
        checked++;
        if (got != want) {
            wrong++;
            System.out.println(about + what + " answered " + got + ", due is " + want);
        }
    }

    static void isTrue(String what, boolean holds) {
        due(what, holds ? 1 : 0, 1);
    }

    /** The call, on a hall as it is made here, is due to be refused so and to change nothing. */
    static void refused(String what, int error, Supplier<GuessingHall> made, ToIntFunction<GuessingHall> call) {
        due(what, call.applyAsInt(made.get()), error);
        isTrue(what + " changes nothing", view(made).equals(view(after(made, call))));
    }

    static Supplier<GuessingHall> after(Supplier<GuessingHall> made, ToIntFunction<GuessingHall> call) {
        return () -> {
            GuessingHall hall = made.get();
            call.applyAsInt(hall);
            return hall;
        };
    }

    static void type(GuessingHall hall, String text) {
        hall.clearText();
        for (int index = 0; index < text.length(); index++) {
            hall.type(text.charAt(index));
        }
    }

    /** A list of so many words of two letters ("ax", "bx" and so on), all of this weight. */
    static String list(int words, int weight) {
        StringBuilder list = new StringBuilder();
        for (int word = 0; word < words; word++) {
            list.append((char) ('a' + word)).append("x*").append(weight).append(';');
        }
        return list.toString();
    }

    static GuessingHall typed(String text) {
        GuessingHall hall = new GuessingHall();
        type(hall, text);
        return hall;
    }

    static GuessingHall hall(String list, int... purses) {
        GuessingHall hall = new GuessingHall();
        if (!list.isEmpty()) {
            type(hall, list);
            due("read() of " + list, hall.read(), list.chars().filter(sign -> sign == ';').count());
        }
        for (int player = 0; player < purses.length; player++) {
            due("seat(" + purses[player] + ")", hall.seat(purses[player]), player);
        }
        return hall;
    }

    /** All of the state that can be seen: no text, no history, no snapshot. */
    static List<Integer> viewOfState(Supplier<GuessingHall> made) {
        return seen(made, LOOKS_AT_STATE);
    }

    static List<Integer> view(Supplier<GuessingHall> made) {
        List<ToIntFunction<GuessingHall>> looks = new ArrayList<>(LOOKS_AT_STATE);
        for (int what = 12; what <= 14; what++) {
            int code = what;
            looks.add(hall -> hall.count(code));
        }
        looks.add(hall -> hall.fault(0));
        looks.add(hall -> hall.fault(1));
        return seen(made, looks);
    }

    private static List<Integer> seen(Supplier<GuessingHall> made, List<ToIntFunction<GuessingHall>> looks) {
        List<Integer> answers = new ArrayList<>();
        GuessingHall hall = null;
        for (int index = 0; index < looks.size(); index++) {
            if (index % LOOKS_OF_ONE_OBJECT == 0) {
                hall = made.get();
            }
            answers.add(looks.get(index).applyAsInt(hall));
        }
        return answers;
    }

    private static List<ToIntFunction<GuessingHall>> looksAtState() {
        List<ToIntFunction<GuessingHall>> looks = new ArrayList<>();
        for (int what : new int[] {0, 1, 2, 3, 4, 5, 6, 7, 8, 9, 10, 11, 15}) {
            looks.add(hall -> hall.count(what));
        }
        for (int first = 0; first <= 25; first++) {
            int number = first;
            looks.add(hall -> hall.open(number));
            for (int second = 0; second < 18; second++) {
                int what = second;
                if (number <= 16) {
                    looks.add(hall -> hall.wordOf(number, what));
                }
                if (number <= 5) {
                    looks.add(hall -> hall.playerOf(number, what));
                }
                if (number <= 6 && what <= 3) {
                    looks.add(hall -> hall.round(number, what));
                }
                if (what <= 2) {
                    looks.add(hall -> hall.letterOf(number, what));
                }
            }
        }
        for (int number = 0; number <= 4; number++) {
            int what = number;
            looks.add(hall -> hall.fits(what));
        }
        looks.add(hall -> hall.sharpest());
        looks.add(hall -> hall.next());
        return looks;
    }

    static void finish() {
        System.out.println(wrong == 0 ? checked + " answers are as due" : wrong + " answers are not as due");
        if (wrong != 0) {
            System.exit(1);
        }
    }
}
