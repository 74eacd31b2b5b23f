import java.util.function.Supplier;

/** Promises 23 to 26: type, clearText, fault, read. */
public final class TextTest {
    /** Sixteen words of five characters each. */
    private static final String SIXTEEN = Checks.list(16, 1);

    public static void main(String[] args) {
        type();
        clearText();
        goodTexts();
        wrongCharacters();
        ninthLetters();
        wordsAgain();
        seventeenthWords();
        faultOfWhat();
        read();
        readRefused();
        readAgain();
        Checks.finish();
    }

    private static void type() {
        GuessingHall hall = new GuessingHall();
        for (int length = 1; length <= 120; length++) {
            Checks.due("type() of " + length, hall.type(31 + (length - 1) % 95 + 1), length);
        }
        Checks.due("type(97) of 121", hall.type(97), Checks.LIMIT);
        Checks.due("type(127) of 121", hall.type(127), Checks.INVALID);
        Checks.due("count(13)", hall.count(13), 120);
        Checks.due("count(12)", hall.count(12), 0);
        Supplier<GuessingHall> made = () -> Checks.typed("ab");
        Checks.refused("type(31)", Checks.INVALID, made, x -> x.type(31));
        Checks.refused("type(127)", Checks.INVALID, made, x -> x.type(127));
        Checks.due("type(32)", Checks.typed("ab").type(32), 3);
        Checks.due("type(126)", Checks.typed("ab").type(126), 3);
        for (int far : Checks.FAR) {
            Checks.due("type(" + far + ")", hall.type(far), Checks.INVALID);
        }
    }

    private static void clearText() {
        GuessingHall hall = Checks.typed("ab*1;");
        Checks.due("clearText()", hall.clearText(), 5);
        Checks.due("clearText() again", hall.clearText(), 0);
        Checks.due("count(13)", hall.count(13), 0);
        Checks.due("fault(0)", hall.fault(0), 0);
        Checks.due("type(99)", hall.type(99), 1);
        Checks.due("fault(0): what was is gone", hall.fault(0), 1);
    }

    private static void dueFault(String text, int place, int reason) {
        GuessingHall hall = Checks.typed(text);
        Checks.due("fault(0) of " + text, hall.fault(0), place);
        Checks.due("fault(1) of " + text, hall.fault(1), reason);
        Checks.due("read() of " + text, hall.read(), Checks.NOT_POSSIBLE);
        Checks.due("count(0) of " + text, hall.count(0), 0);
        Checks.due("count(12) of " + text, hall.count(12), 0);
    }

    private static void goodTexts() {
        String[] texts = {"ab*1;", "az*9;", "ab*10;", "ab*99;", "abcdefgh*50;", "zz*1;zzz*1;", "ab*1;ba*1;", SIXTEEN,
            "abcdefgh*50;".repeat(1) + "bcdefghi*50;cdefghij*50;defghijk*50;efghijkl*50;fghijklm*50;ghijklmn*50;"
                + "hijklmno*50;ijklmnop*50;jklmnopq*50;"};
        for (String text : texts) {
            GuessingHall hall = Checks.typed(text);
            Checks.due("fault(0) of " + text, hall.fault(0), Checks.NOT_FOUND);
            Checks.due("fault(1) of " + text, hall.fault(1), Checks.NOT_FOUND);
            Checks.due("read() of " + text, hall.read(), text.chars().filter(sign -> sign == ';').count());
        }
    }

    private static void wrongCharacters() {
        dueFault("", 0, 1);
        String word = "abcd*12;";
        for (int length = 1; length < word.length(); length++) {
            dueFault(word.substring(0, length), length, 1);
        }
        for (String wrong : new String[] {"*", ";", "1", "A", "Z", "`", "{", " ", "~"}) {
            dueFault(wrong + "b*1;", 0, 1);
            dueFault("a" + wrong + "b*1;", 1, 1);
            dueFault("ab*1;" + wrong, 5, 1);
        }
        dueFault("ab;", 2, 1);
        dueFault("ab1;", 2, 1);
        dueFault("ab**1;", 3, 1);
        dueFault("ab*;", 3, 1);
        dueFault("ab*a;", 3, 1);
        dueFault("ab*0;", 3, 1);
        dueFault("ab*01;", 3, 1);
        dueFault("ab*:;", 3, 1);
        dueFault("ab*/;", 3, 1);
        dueFault("ab*1:", 4, 1);
        dueFault("ab*1/", 4, 1);
        dueFault("ab*1a;", 4, 1);
        dueFault("ab*10", 5, 1);
        dueFault("ab*100;", 5, 1);
        dueFault("ab*10a", 5, 1);
        dueFault("ab*1;;", 5, 1);
        dueFault("ab*1;c", 6, 1);
        dueFault("abcdefgh", 8, 1);
        dueFault("abcdefgh1", 8, 1);
        dueFault("abcdefghA", 8, 1);
    }

    private static void ninthLetters() {
        dueFault("abcdefghi", 8, 2);
        dueFault("abcdefghi*1;", 8, 2);
        dueFault("ab*1;abcdefghz", 13, 2);
        dueFault("ab*1;abcdefghij*1;ab*1;", 13, 2);
    }

    private static void wordsAgain() {
        dueFault("ab*1;ab*1;", 5, 3);
        dueFault("ab*1;ab*2;", 5, 3);
        dueFault("ab*10;cd*1;ef*1;cd*99;?", 16, 3);
        dueFault("ab*1;cd*1;ab*1;cd*1;", 10, 3);
        dueFault("ab*1;ab*1", 9, 1);
        dueFault("ab*1;ab*100;", 10, 1);
        dueFault("ab*1;ab", 7, 1);
        dueFault("abcdefgh*1;abcdefghi*1;", 19, 2);
        dueFault(SIXTEEN.substring(0, 75) + "ax*1;", 75, 3);
    }

    private static void seventeenthWords() {
        dueFault(SIXTEEN + "zz*1;", 80, 4);
        dueFault(SIXTEEN + "ax*1;", 80, 4);
        dueFault(SIXTEEN + "z", 80, 4);
        dueFault(SIXTEEN + "z?", 80, 4);
        dueFault(SIXTEEN + "abcdefghi", 80, 4);
        dueFault(SIXTEEN + "*", 80, 1);
        dueFault(SIXTEEN + " zz*1;", 80, 1);
        dueFault(SIXTEEN.substring(0, 79), 79, 1);
    }

    private static void faultOfWhat() {
        for (String text : new String[] {"", "ab*1;", "ab"}) {
            Checks.due("fault(2) of " + text, Checks.typed(text).fault(2), Checks.INVALID);
            Checks.due("fault(-1) of " + text, Checks.typed(text).fault(-1), Checks.INVALID);
            for (int far : Checks.FAR) {
                Checks.due("fault(" + far + ") of " + text, Checks.typed(text).fault(far), Checks.INVALID);
            }
        }
    }

    private static void read() {
        GuessingHall hall = Checks.typed("abcdefgh*99;zy*7;");
        Checks.due("read()", hall.read(), 2);
        Checks.due("count(12)", hall.count(12), 1);
        Checks.due("count(13): the text stays", hall.count(13), 17);
        Checks.due("count(0)", hall.count(0), 2);
        Checks.due("count(11)", hall.count(11), 106);
        for (int place = 0; place < 8; place++) {
            Checks.due("wordOf(0, 10+" + place + ")", hall.wordOf(0, 10 + place), place);
        }
        Checks.due("wordOf(1, 10)", hall.wordOf(1, 10), 25);
        Checks.due("wordOf(1, 11)", hall.wordOf(1, 11), 24);
        Checks.due("wordOf(1, 12)", hall.wordOf(1, 12), Checks.INVALID);
        Checks.due("wordOf(1, 1)", hall.wordOf(1, 1), 7);
        Checks.due("read() once more", hall.read(), 2);
    }

    private static void readRefused() {
        Supplier<GuessingHall> running = () -> {
            GuessingHall hall = Checks.hall("ab*1;cd*2;", 10);
            hall.begin(1);
            return hall;
        };
        Checks.refused("read() in a round", Checks.NOT_POSSIBLE, running, x -> x.read());
        Supplier<GuessingHall> faulty = Checks.after(() -> Checks.hall("ab*1;cd*2;", 10), x -> x.type('e'));
        Checks.refused("read() of a fault", Checks.NOT_POSSIBLE, faulty, x -> x.read());
        Supplier<GuessingHall> empty = Checks.after(() -> Checks.hall("ab*1;cd*2;", 10), x -> x.clearText());
        Checks.refused("read() of no text", Checks.NOT_POSSIBLE, empty, x -> x.read());
    }

    /** Words that were are gone, and draws of theirs too; rounds stay by the numbers of their words. */
    private static void readAgain() {
        GuessingHall hall = Checks.hall("ab*1;cd*99;ef*1;", 10);
        hall.begin(1);
        hall.tell(1);
        Checks.due("wordOf(1, 3)", hall.wordOf(1, 3), 1);
        Checks.type(hall, "xyz*5;");
        Checks.due("read()", hall.read(), 1);
        Checks.due("count(0)", hall.count(0), 1);
        Checks.due("wordOf(1, 0)", hall.wordOf(1, 0), Checks.INVALID);
        Checks.due("wordOf(0, 0)", hall.wordOf(0, 0), 3);
        Checks.due("round(0, 0)", hall.round(0, 0), 1);
        hall.begin(1);
        hall.tell(0);
        Checks.due("wordOf(0, 3)", hall.wordOf(0, 3), 1);
        hall.read();
        Checks.due("wordOf(0, 3): never drawn so far", hall.wordOf(0, 3), 0);
        Checks.due("count(8): rounds so far", hall.count(8), 2);
        Checks.due("undo()", hall.undo(), 3);
        Checks.due("wordOf(0, 3) behind undo()", hall.wordOf(0, 3), 1);
    }
}
