import java.util.function.Supplier;

/** What is told under Texts, and promises 23 to 26. */
final class TextEdges {
    private static final String SIXTEEN = Checks.list(16, 1);
    /** Ten words of eight letters: 120 characters. */
    private static final String LONGEST = longest();

    private TextEdges() {
    }

    private static String longest() {
        StringBuilder list = new StringBuilder();
        for (char letter = 'a'; letter < 'k'; letter++) {
            list.append("zzzzzzz").append(letter).append("*99;");
        }
        return list.toString();
    }

    private static void dueFault(String text, int place, int reason) {
        GuessingHall hall = Checks.typed(text);
        Checks.due("fault(0) of " + text, hall.fault(0), place);
        Checks.due("fault(1) of " + text, hall.fault(1), reason);
        Checks.due("read() of " + text, hall.read(), Checks.NOT_POSSIBLE);
    }

    private static void dueList(String text, int words) {
        GuessingHall hall = Checks.typed(text);
        Checks.due("fault(0) of " + text, hall.fault(0), Checks.NOT_FOUND);
        Checks.due("fault(1) of " + text, hall.fault(1), Checks.NOT_FOUND);
        Checks.due("read() of " + text, hall.read(), words);
    }

    // ---- Texts

    @Sentence(promise = {23, 15}, under = "Texts", value = "There is a text of at most 120 characters, initially empty.")
    static void theLongestText() {
        GuessingHall hall = new GuessingHall();
        Checks.due("count(13) at first", hall.count(13), 0);
        Checks.due("clearText() at first", new GuessingHall().clearText(), 0);
        for (int index = 0; index < 120; index++) {
            Checks.due("type()", hall.type(LONGEST.charAt(index)), index + 1);
        }
        Checks.due("type() of one more", hall.type('z'), Checks.LIMIT);
        Checks.due("count(13)", hall.count(13), 120);
        Checks.due("fault(0): the last characters count", hall.fault(0), Checks.NOT_FOUND);
        Checks.due("read()", hall.read(), 10);
        Checks.due("wordOf(9, 17): the last letter", hall.wordOf(9, 17), 'j' - 'a');
    }

    @Sentence(promise = 25, under = "Texts", value = "As a list it is one or more words")
    static void oneOrMoreWords() {
        dueFault("", 0, 1);
        dueList("ab*1;", 1);
        dueList("ab*1;cd*1;", 2);
        dueList(SIXTEEN, 16);
        dueFault("ab*1; cd*1;", 5, 1);
        dueFault("ab*1;;", 5, 1);
        dueFault(";ab*1;", 0, 1);
    }

    @Sentence(promise = 25, under = "Texts", value = "each of 2 to 8 letters \"a\" to \"z\"")
    static void lettersOfAWord() {
        dueList("az*1;", 1);
        dueList("za*1;", 1);
        dueList("abcdefgh*1;", 1);
        dueFault("*1;", 0, 1);
        dueFault("a*1;", 1, 1);
        dueFault("abcdefghi*1;", 8, 2);
        for (char wrong : new char[] {'`', '{', 'A', 'Z', '0', ' ', '~'}) {
            dueFault(wrong + "b*1;", 0, 1);
            dueFault("a" + wrong + "*1;", 1, 1);
            dueFault("abcdefg" + wrong + "*1;", 7, 1);
        }
    }

    @Sentence(promise = 25, under = "Texts", value = "\"*\", a weight (1 to 99, without 0 ahead of others), and \";\"")
    static void weightOfAWord() {
        for (String weight : new String[] {"1", "9", "10", "19", "90", "99"}) {
            GuessingHall hall = Checks.typed("ab*" + weight + ";");
            Checks.due("read() of " + weight, hall.read(), 1);
            Checks.due("wordOf(0, 1) of " + weight, hall.wordOf(0, 1), Integer.parseInt(weight));
        }
        dueFault("ab*0;", 3, 1);
        dueFault("ab*00;", 3, 1);
        dueFault("ab*01;", 3, 1);
        dueFault("ab*100;", 5, 1);
        dueFault("ab*999;", 5, 1);
        dueFault("ab*;", 3, 1);
        dueFault("ab*/;", 3, 1);
        dueFault("ab*:;", 3, 1);
        dueFault("ab*1/", 4, 1);
        dueFault("ab*1:", 4, 1);
        dueFault("ab+1;", 2, 1);
        dueFault("ab)1;", 2, 1);
        dueFault("ab;", 2, 1);
        dueFault("ab*12:", 5, 1);
        dueFault("ab*12<", 5, 1);
    }

    @Sentence(promise = 25, under = "Texts", value = "Its fault is told by a place and a reason, the one with the lowest "
        + "place, of several at one place the lowest reason")
    static void theLowestFault() {
        dueFault("ab*1;ab*2;abcdefghi*1;", 5, 3);
        dueFault("ab*1;abcdefghi*1;ab*1;", 13, 2);
        dueFault("ab*0;ab*1;ab*1;", 3, 1);
        dueFault("ab*1;ab*1;?", 5, 3);
        dueFault(SIXTEEN + "abcdefghi", 80, 4);
        dueFault(SIXTEEN + "ax*1;ax*1;", 80, 4);
        dueFault(SIXTEEN.substring(0, 75) + "ax*1;zx*1;", 75, 3);
        dueFault("abcdefghi", 8, 2);
    }

    @Sentence(promise = 25, under = "Texts", value = "1: a character that cannot stand at its place (its index; the length "
        + "of the text if it ends too early, as the empty text does)")
    static void aWrongCharacter() {
        String list = "ab*1;abcdefgh*12;";
        for (int length = 0; length < list.length(); length++) {
            if (length == 5) {
                dueList(list.substring(0, length), 1);
            } else {
                dueFault(list.substring(0, length), length, 1);
            }
        }
        for (int place = 0; place < list.length(); place++) {
            dueFault(list.substring(0, place) + "!" + list.substring(place + 1), place, 1);
        }
        dueFault(list + "!", list.length(), 1);
        dueFault(LONGEST.substring(0, 119), 119, 1);
        dueFault(LONGEST.substring(0, 119) + "!", 119, 1);
    }

    @Sentence(promise = 25, under = "Texts", value = "2: the ninth letter of a word")
    static void aNinthLetter() {
        dueFault("abcdefgha", 8, 2);
        dueFault("abcdefghz*1;", 8, 2);
        dueFault("ab*1;abcdefghij*1;", 13, 2);
        dueFault("abcdefgh", 8, 1);
        dueFault("abcdefgh`", 8, 1);
        dueFault("abcdefgh{", 8, 1);
    }

    @Sentence(promise = 25, under = "Texts", value = "3: the first letter of a word that stands in the list already")
    static void aWordAgain() {
        dueFault("ab*1;ab*1;", 5, 3);
        dueFault("ab*1;ab*99;", 5, 3);
        dueFault("ab*1;cd*1;cd*1;", 10, 3);
        dueFault("abcdefgh*1;ab*1;abcdefgh*1;", 16, 3);
        dueFault(SIXTEEN.substring(0, 75) + "ax*1;", 75, 3);
        dueFault(SIXTEEN.substring(0, 75) + "ox*1;", 75, 3);
        dueFault("abcdefgh*1;ab*1;cd*1;ab*1;", 21, 3);
        dueFault("ab*1;abcdefgh*1;cd*1;abcdefgh*1;", 21, 3);
        dueList("abcdefgh*1;abcdefga*1;", 2);
        dueList("ab*1;bb*1;", 2);
        GuessingHall hall = Checks.typed("abcd*1;efgh*1;");
        hall.read();
        Checks.type(hall, "ab*1;ab*1;");
        Checks.due("fault(0) behind a text of longer words", hall.fault(0), 5);
        Checks.due("fault(1) behind a text of longer words", hall.fault(1), 3);
        Checks.type(hall, "cd*1;ab*1;");
        Checks.due("fault(0) behind a text of the same words", hall.fault(0), Checks.NOT_FOUND);
    }

    @Sentence(promise = 25, under = "Texts", value = "4: the first letter of a seventeenth word")
    static void aSeventeenthWord() {
        dueFault(SIXTEEN + "z", 80, 4);
        dueFault(SIXTEEN + "a", 80, 4);
        dueFault(SIXTEEN + "zz*1;", 80, 4);
        dueFault(SIXTEEN + "zz*1;zy*1;", 80, 4);
        dueFault(SIXTEEN + "z!", 80, 4);
        dueFault(SIXTEEN + "!", 80, 1);
        dueFault(SIXTEEN + ";", 80, 1);
        dueList(SIXTEEN, 16);
    }

    @Sentence(promise = 25, under = "Texts",
        value = "(3 only of a word that is of its form, up to its \";\", and not of a seventeenth one.)")
    static void aWordAgainThatIsNotOfItsForm() {
        dueFault("ab*1;ab", 7, 1);
        dueFault("ab*1;ab*1", 9, 1);
        dueFault("ab*1;ab;", 7, 1);
        dueFault("ab*1;ab*;", 8, 1);
        dueFault("ab*1;ab*0;", 8, 1);
        dueFault("ab*1;ab**1;", 8, 1);
        dueFault("ab*1;ab*1!", 9, 1);
        dueFault("ab*1;ab*100;", 10, 1);
        dueFault("abcdefgh*1;abcdefghi*1;", 19, 2);
        dueFault(SIXTEEN + "ax*1;", 80, 4);
        dueFault(SIXTEEN + "px*1;", 80, 4);
    }

    // ---- Promise 23: type

    @Sentence(promise = 23, value = "`character`: 32 to 126")
    static void typeOfFirstAndLast() {
        for (int character = 32; character <= 126; character++) {
            Checks.due("type(" + character + ")", new GuessingHall().type(character), 1);
        }
    }

    @Sentence(promise = 23, value = "Returns the length of the text")
    static void typeTellsTheLength() {
        GuessingHall hall = new GuessingHall();
        for (int length = 1; length <= 120; length++) {
            Checks.due("type(97)", hall.type('a'), length);
        }
        hall.clearText();
        Checks.due("type(97) behind clearText()", hall.type('a'), 1);
    }

    @Sentence(promise = 23, value = "INVALID_ARGUMENT if character is out of range")
    static void typeOutOfRange() {
        Supplier<GuessingHall> made = () -> Checks.typed("ab");
        for (int character : new int[] {0, 9, 10, 31, 127, 128, 255, 256 + 97, 65536 + 97}) {
            Checks.refused("type(" + character + ")", Checks.INVALID, made, x -> x.type(character));
        }
        for (int far : Checks.FAR) {
            Checks.refused("type(" + far + ")", Checks.INVALID, made, x -> x.type(far));
        }
    }

    @Sentence(promise = 23, value = "LIMIT_REACHED if it has 120 characters")
    static void typeIntoAFullText() {
        Checks.due("type(97) behind 119", Checks.typed(LONGEST.substring(0, 119)).type('a'), 120);
        Supplier<GuessingHall> full = () -> Checks.typed(LONGEST);
        Checks.refused("type(32) behind 120", Checks.LIMIT, full, x -> x.type(32));
        Checks.refused("type(97) behind 120", Checks.LIMIT, full, x -> x.type('a'));
        Checks.refused("type(126) behind 120", Checks.LIMIT, full, x -> x.type(126));
    }

    // ---- Promise 24: clearText

    @Sentence(promise = 24, value = "Returns the length it had.")
    static void clearTextOfNoneToAll() {
        for (int length : new int[] {0, 1, 119, 120}) {
            GuessingHall hall = Checks.typed(LONGEST.substring(0, length));
            Checks.due("clearText() of " + length, hall.clearText(), length);
            Checks.due("count(13)", hall.count(13), 0);
            Checks.due("fault(0): it is the empty text", hall.fault(0), 0);
            Checks.due("clearText() again", hall.clearText(), 0);
        }
    }

    // ---- Promise 25: fault

    @Sentence(promise = 25, value = "`what`: 0: its place; 1: its reason")
    static void faultOfEachThing() {
        GuessingHall hall = Checks.typed("abcdefghi");
        Checks.due("fault(0)", hall.fault(0), 8);
        Checks.due("fault(1)", hall.fault(1), 2);
        hall.clearText();
        Checks.due("fault(0) of the empty text", hall.fault(0), 0);
        Checks.due("fault(1) of the empty text", hall.fault(1), 1);
    }

    @Sentence(promise = 25, value = "INVALID_ARGUMENT if what is out of range")
    static void faultOutOfRange() {
        for (String text : new String[] {"", "ab*1;", "!"}) {
            GuessingHall hall = Checks.typed(text);
            Checks.due("fault(-1) of " + text, hall.fault(-1), Checks.INVALID);
            Checks.due("fault(2) of " + text, hall.fault(2), Checks.INVALID);
            for (int far : Checks.FAR) {
                Checks.due("fault(" + far + ") of " + text, hall.fault(far), Checks.INVALID);
            }
        }
    }

    @Sentence(promise = 25, value = "NOT_FOUND if the text has no fault")
    static void faultOfNone() {
        for (String text : new String[] {"ab*1;", SIXTEEN, LONGEST}) {
            GuessingHall hall = Checks.typed("!");
            hall.fault(0);
            Checks.type(hall, text);
            Checks.due("fault(0) of " + text, hall.fault(0), Checks.NOT_FOUND);
            Checks.due("fault(1) of " + text, hall.fault(1), Checks.NOT_FOUND);
        }
    }

    // ---- Promise 26: read

    @Sentence(promise = 26, value = "Makes the words of the text all words there are (never drawn so far), in their order; "
        + "the text stays.")
    static void readAnew() {
        GuessingHall hall = Draws.round(SIXTEEN, 0, 1, 9);
        hall.tell(0);
        Checks.due("wordOf(0, 3)", hall.wordOf(0, 3), 1);
        Checks.type(hall, "zy*7;ax*99;");
        Checks.due("count(0): they are not of the text yet", hall.count(0), 16);
        Checks.due("read()", hall.read(), 2);
        Checks.due("count(0)", hall.count(0), 2);
        Checks.due("count(11)", hall.count(11), 106);
        Checks.due("wordOf(0, 10)", hall.wordOf(0, 10), 25);
        Checks.due("wordOf(1, 10)", hall.wordOf(1, 10), 0);
        Checks.due("wordOf(2, 10)", hall.wordOf(2, 10), Checks.INVALID);
        Checks.due("wordOf(0, 3): never drawn", hall.wordOf(0, 3), 0);
        Checks.due("wordOf(1, 3): never drawn, as another word", hall.wordOf(1, 3), 0);
        Checks.due("count(13): the text stays", hall.count(13), 11);
        Checks.due("read() of it once more", hall.read(), 2);
        Draws.prepare(hall, 1);
        hall.begin(1);
        Checks.due("fits(0): no word that was", hall.fits(0), 0b11);
        Checks.due("fits(2): no word that was", hall.fits(2), 106);
    }

    @Sentence(promise = 26, value = "(Rounds that were stay as they are, by the numbers of their words.)")
    static void readLeavesTheRounds() {
        GuessingHall hall = Draws.round(SIXTEEN, 15, 4, 9);
        hall.tell(0);
        hall.tell(15);
        Checks.type(hall, "ab*1;");
        hall.read();
        int[] due = {15, 0, 1, 4};
        for (int what = 0; what < 4; what++) {
            Checks.due("round(0, " + what + ")", hall.round(0, what), due[what]);
        }
        Checks.due("count(8)", hall.count(8), 1);
    }

    @Sentence(promise = 26, value = "Returns how many there are")
    static void readOfOneToSixteen() {
        for (int words = 1; words <= 16; words++) {
            Checks.due("read() of " + words, Checks.typed(Checks.list(words, 99)).read(), words);
        }
    }

    @Sentence(promise = 26, value = "NOT_POSSIBLE in a round")
    static void readInARound() {
        Supplier<GuessingHall> made = () -> Draws.round("ab*1;", 0, 1, 9);
        Checks.refused("read()", Checks.NOT_POSSIBLE, made, x -> x.read());
        Checks.due("read() behind it", Checks.after(made, x -> x.tell(0)).get().read(), 1);
    }

    @Sentence(promise = 26, value = "or if the text has a fault")
    static void readOfAFault() {
        for (String text : new String[] {"", "a", "ab*1", "abcdefghi*1;", "ab*1;ab*1;", Checks.list(17, 1), "ab*1;!"}) {
            Supplier<GuessingHall> made = () -> {
                GuessingHall hall = Checks.hall("zz*9;zy*8;", 5);
                Checks.type(hall, text);
                return hall;
            };
            Checks.refused("read() of " + text, Checks.NOT_POSSIBLE, made, x -> x.read());
        }
    }
}
