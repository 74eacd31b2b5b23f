/** Promises 11 to 15: wordOf, playerOf, open, round, count. */
public final class LooksTest {
    private static final String LIST = "abba*5;zebras*99;abcdefgh*10;";

    public static void main(String[] args) {
        wordOf();
        wordOfFit();
        playerOf();
        open();
        rounds();
        count();
        Checks.finish();
    }

    private static GuessingHall ready() {
        return Checks.hall(LIST, 30, 40);
    }

    /** The first draw of this list is its word 1. */
    private static GuessingHall inRound() {
        GuessingHall hall = ready();
        Checks.due("begin(3)", hall.begin(3), 6);
        return hall;
    }

    private static int setOf(String letters) {
        int set = 0;
        for (char letter : letters.toCharArray()) {
            set |= 1 << (letter - 'a');
        }
        return set;
    }

    private static void wordOf() {
        GuessingHall hall = ready();
        String[] words = {"abba", "zebras", "abcdefgh"};
        int[] weights = {5, 99, 10};
        for (int word = 0; word < 3; word++) {
            int length = words[word].length();
            Checks.due("wordOf(" + word + ", 0)", hall.wordOf(word, 0), length);
            Checks.due("wordOf(" + word + ", 1)", hall.wordOf(word, 1), weights[word]);
            Checks.due("wordOf(" + word + ", 2)", hall.wordOf(word, 2), setOf(words[word]));
            Checks.due("wordOf(" + word + ", 3)", hall.wordOf(word, 3), 0);
            Checks.due("wordOf(" + word + ", 4)", hall.wordOf(word, 4), Checks.NOT_FOUND);
            for (int place = 0; place < length; place++) {
                Checks.due("wordOf(" + word + ", 10+" + place + ")", hall.wordOf(word, 10 + place),
                    words[word].charAt(place) - 'a');
            }
            for (int place = length; place < 10; place++) {
                Checks.due("wordOf(" + word + ", 10+" + place + ")", hall.wordOf(word, 10 + place), Checks.INVALID);
            }
            for (int what = 5; what < 10; what++) {
                Checks.due("wordOf(" + word + ", " + what + ")", hall.wordOf(word, what), Checks.INVALID);
            }
        }
        Checks.due("wordOf(3, 0)", hall.wordOf(3, 0), Checks.INVALID);
        Checks.due("wordOf(3, 4)", hall.wordOf(3, 4), Checks.INVALID);
        for (int far : Checks.FAR) {
            Checks.due("wordOf(" + far + ", 0)", hall.wordOf(far, 0), Checks.INVALID);
            Checks.due("wordOf(" + far + ", 10)", hall.wordOf(far, 10), Checks.INVALID);
            Checks.due("wordOf(0, " + far + ")", hall.wordOf(0, far), Checks.INVALID);
        }
        hall.begin(1);
        Checks.due("wordOf(1, 3) behind a draw", hall.wordOf(1, 3), 1);
        Checks.due("wordOf(0, 3) behind a draw", hall.wordOf(0, 3), 0);
    }

    private static void wordOfFit() {
        GuessingHall hall = Checks.hall("abc*1;acc*99;adc*2;ab*1;", 20);
        hall.begin(1);
        int[] first = {1, 1, 1, 0};
        for (int word = 0; word < 4; word++) {
            Checks.due("wordOf(" + word + ", 4)", hall.wordOf(word, 4), first[word]);
        }
        Checks.due("wordOf(4, 4)", hall.wordOf(4, 4), Checks.INVALID);
        hall.guess(3);
        Checks.due("wordOf(2, 4) behind d", hall.wordOf(2, 4), 0);
        Checks.due("wordOf(0, 4) behind d", hall.wordOf(0, 4), 1);
        hall.guess(2);
        Checks.due("wordOf(0, 4) behind c", hall.wordOf(0, 4), 0);
        Checks.due("wordOf(1, 4) behind c", hall.wordOf(1, 4), 1);
        hall.guess(0);
        Checks.due("wordOf(1, 4) behind the round", hall.wordOf(1, 4), Checks.NOT_FOUND);
    }

    private static void playerOf() {
        GuessingHall hall = inRound();
        hall.guess(0);
        hall.guess(24);
        hall.guess(23);
        int[][] due = {{28, 0, 1, 1, -4, -4}, {37, 0, 0, 1, -4, -4}};
        for (int player = 0; player < 2; player++) {
            for (int what = 0; what < 6; what++) {
                Checks.due("playerOf(" + player + ", " + what + ")", hall.playerOf(player, what), due[player][what]);
            }
            Checks.due("playerOf(" + player + ", 6)", hall.playerOf(player, 6), Checks.INVALID);
        }
        Checks.due("playerOf(2, 0)", hall.playerOf(2, 0), Checks.INVALID);
        Checks.due("playerOf(2, 4)", hall.playerOf(2, 4), Checks.INVALID);
        hall.whisper(0, 1, 6);
        hall.tell(1);
        Checks.due("playerOf(0, 1)", hall.playerOf(0, 1), 1);
        Checks.due("playerOf(1, 1)", hall.playerOf(1, 1), 0);
        for (int far : Checks.FAR) {
            Checks.due("playerOf(" + far + ", 0)", hall.playerOf(far, 0), Checks.INVALID);
            Checks.due("playerOf(0, " + far + ")", hall.playerOf(0, far), Checks.INVALID);
        }
    }

    private static void open() {
        GuessingHall hall = inRound();
        String word = "zebras";
        for (char letter : "qbsz".toCharArray()) {
            hall.guess(letter - 'a');
        }
        for (int place = 0; place < 6; place++) {
            int letter = word.charAt(place) - 'a';
            boolean isOpen = "bsz".indexOf(word.charAt(place)) >= 0;
            Checks.due("open(" + place + ")", hall.open(place), isOpen ? letter : 26);
        }
        Checks.due("open(6)", hall.open(6), Checks.NOT_FOUND);
        Checks.due("open(highest)", hall.open(Integer.MAX_VALUE), Checks.NOT_FOUND);
        Checks.due("open(-1)", hall.open(-1), Checks.INVALID);
        Checks.due("open(lowest)", hall.open(Integer.MIN_VALUE), Checks.INVALID);
        Checks.due("count(7)", hall.count(7), 3);
        hall.tell(1);
        Checks.due("open(0) without a round", hall.open(0), Checks.NOT_POSSIBLE);
        Checks.due("open(9) without a round", hall.open(9), Checks.NOT_POSSIBLE);
        Checks.due("open(-1) without a round", hall.open(-1), Checks.INVALID);
    }

    private static void rounds() {
        GuessingHall hall = Checks.hall("ab*1;cd*1;ef*1;", 100, 100);
        hall.set(0, 2);
        int[][] due = new int[9][];
        for (int number = 0; number < 9; number++) {
            int word = hall.next();
            hall.begin(number + 1);
            int starter = number % 2;
            Checks.due("round(" + number + ", 0) of the round that runs", hall.round(number, 0), Checks.NOT_FOUND);
            if (number % 3 == 0) {
                hall.guess(20);
                hall.guess(21);
                due[number] = new int[] {word, 5, 2, number + 1};
            } else if (number % 3 == 1) {
                hall.guess(20);
                hall.tell(word);
                due[number] = new int[] {word, 1 - starter, 1, number + 1};
            } else {
                hall.tell(word);
                due[number] = new int[] {word, starter, 0, number + 1};
            }
            for (int index = 0; index < 8; index++) {
                for (int what = 0; what < 4; what++) {
                    boolean kept = index <= number && index < 6;
                    Checks.due("round(" + index + ", " + what + ") behind " + number, hall.round(index, what),
                        kept ? due[number - index][what] : Checks.NOT_FOUND);
                }
            }
        }
        Checks.due("round(0, 4)", hall.round(0, 4), Checks.INVALID);
        Checks.due("round(0, -1)", hall.round(0, -1), Checks.INVALID);
        Checks.due("round(-1, 0)", hall.round(-1, 0), Checks.INVALID);
        Checks.due("round(6, 4)", hall.round(6, 4), Checks.INVALID);
        for (int far : Checks.FAR) {
            Checks.due("round(" + far + ", 0)", hall.round(far, 0), far < 0 ? Checks.INVALID : Checks.NOT_FOUND);
            Checks.due("round(0, " + far + ")", hall.round(0, far), Checks.INVALID);
        }
    }

    private static void count() {
        GuessingHall hall = inRound();
        hall.guess(0);
        hall.guess(24);
        hall.keep();
        hall.type(65);
        int textLength = LIST.length() + 1;
        int[] due = {3, 2, 1, 1, 5, 1, 1 << 24 | 1, 1, 1, 0, 1103527590, 114, 4, textLength, 1, 7};
        for (int what = 0; what < due.length; what++) {
            Checks.due("count(" + what + ")", hall.count(what), due[what]);
        }
        Checks.due("count(16)", hall.count(16), Checks.INVALID);
        hall.tell(1);
        for (int what = 3; what <= 7; what++) {
            Checks.due("count(" + what + ") without a round", hall.count(what), Checks.NOT_FOUND);
        }
        Checks.due("count(2) without a round", hall.count(2), 0);
        Checks.due("count(8) without a round", hall.count(8), 1);
        for (int far : Checks.FAR) {
            Checks.due("count(" + far + ")", hall.count(far), Checks.INVALID);
        }
    }
}
