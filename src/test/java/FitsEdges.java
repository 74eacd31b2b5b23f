import java.util.function.Supplier;

/** What is told under Words that fit, and promises 16 to 19. */
final class FitsEdges {
    private static final String LIST = "abab*1;acac*2;bbab*4;abbb*8;aaab*16;cdcd*32;";
    private static final Supplier<GuessingHall> READY = () -> Checks.hall(LIST, 50);
    private static final Supplier<GuessingHall> IN_ROUND = () -> Draws.round(LIST, 0, 1, 50);
    private static final Supplier<GuessingHall> OVER = Checks.after(IN_ROUND, x -> x.tell(0));
    private static final int ONE_AS_FLOAT = 0x3f800000;

    private FitsEdges() {
    }

    private static void dueFitting(String when, GuessingHall hall, int set) {
        Checks.due("fits(0) " + when, hall.fits(0), set);
        for (int word = 0; word < hall.count(0); word++) {
            Checks.due("wordOf(" + word + ", 4) " + when, hall.wordOf(word, 4), set >> word & 1);
        }
    }

    // ---- Words that fit

    @Sentence(promise = {16, 11}, under = "Words that fit",
        value = "A word fits if it has as many letters as the word of the round")
    static void fitsByItsLength() {
        String list = "ab*1;abc*1;abcd*1;abcde*1;abcdef*1;abcdefg*1;abcdefgh*1;cd*1;cdefghij*1;";
        int[] sets = {1 << 7 | 1, 1 << 1, 1 << 2, 1 << 3, 1 << 4, 1 << 5, 1 << 8 | 1 << 6};
        for (int word = 0; word < sets.length; word++) {
            dueFitting("of word " + word, Draws.round(list, word, 1, 5), sets[word]);
        }
    }

    @Sentence(promise = {16, 11}, under = "Words that fit", value = "the same letters at all open places")
    static void fitsByItsOpenPlaces() {
        GuessingHall hall = Draws.round("abca*1;abda*1;abcd*1;dbca*1;", 0, 1, 5);
        dueFitting("at first", hall, 0b1111);
        hall.guess(0);
        dueFitting("behind a: at the first place and the last one", hall, 0b0011);
        hall.guess('c' - 'a');
        dueFitting("behind c", hall, 0b0001);
        GuessingHall longest = Draws.round("abcdefgh*1;abcdefgi*1;ibcdefga*1;", 1, 1, 5);
        longest.guess(0);
        dueFitting("of eight letters behind a", longest, 0b011);
        longest.guess('h' - 'a');
        dueFitting("of eight letters behind h", longest, 0b010);
    }

    @Sentence(promise = {16, 11}, under = "Words that fit", value = "no letter that is guessed at any other place")
    static void fitsByItsOtherPlaces() {
        GuessingHall hall = Draws.round("abbb*1;abba*1;aabb*1;accc*1;zbbb*1;abbz*1;", 0, 1, 5);
        dueFitting("at first", hall, 0b111111);
        hall.guess('z' - 'a');
        dueFitting("behind z, a miss", hall, 0b001111);
        hall.guess(0);
        dueFitting("behind a, which is open", hall, 0b001001);
        hall.guess(2);
        dueFitting("behind c", hall, 0b000001);
        GuessingHall longest = Draws.round("abcdefgh*1;ibcdefgh*1;abcdefgk*1;", 0, 1, 5);
        longest.guess('i' - 'a');
        dueFitting("of eight letters behind i", longest, 0b101);
        longest.guess('k' - 'a');
        dueFitting("of eight letters behind k", longest, 0b001);
    }

    @Sentence(promise = {16, 17}, under = "Words that fit",
        value = "A letter fits as much as the weights of the words that fit and have it, together.")
    static void howMuchALetterFits() {
        GuessingHall hall = IN_ROUND.get();
        int[] due = {31, 29, 34, 32, 0};
        for (int letter = 0; letter < due.length; letter++) {
            Checks.due("letterOf(" + letter + ", 0)", hall.letterOf(letter, 0), due[letter]);
        }
        hall.guess(25);
        hall.guess(3);
        Checks.due("letterOf(2, 0) behind d", hall.letterOf(2, 0), 2);
        GuessingHall most = Draws.round(Checks.list(16, 99), 0, 1, 5);
        Checks.due("letterOf(x, 0) of sixteen words", most.letterOf('x' - 'a', 0), 1584);
        Checks.due("letterOf(p, 0) of one of them", most.letterOf('p' - 'a', 0), 99);
        Checks.due("letterOf(q, 0) of none of them", most.letterOf('q' - 'a', 0), 0);
    }

    @Sentence(promise = 17, under = "Words that fit", value = "The chance of a letter that is not guessed is that, "
        + "as a float, divided by the weights of all words that fit together, as a float.")
    static void chancesFromNoneToAll() {
        GuessingHall most = Draws.round(Checks.list(16, 99), 0, 1, 5);
        Checks.due("letterOf(q, 1), which none has", most.letterOf('q' - 'a', 1), 0);
        Checks.due("letterOf(x, 1), which all have", most.letterOf('x' - 'a', 1), ONE_AS_FLOAT);
        GuessingHall small = Checks.hall(Checks.list(16, 99), 5);
        small.word(15, 1);
        Draws.prepare(small, 0);
        small.begin(1);
        Checks.due("letterOf(p, 1), the least", small.letterOf('p' - 'a', 1), Float.floatToIntBits(1f / 1486f));
        Checks.due("letterOf(o, 1)", small.letterOf('o' - 'a', 1), Float.floatToIntBits(99f / 1486f));
        GuessingHall near = Checks.hall("ab*1;".concat(Checks.list(15, 99)), 5);
        Draws.prepare(near, 1);
        near.begin(1);
        Checks.due("letterOf(x, 1), the greatest below 1", near.letterOf('x' - 'a', 1),
            Float.floatToIntBits(1485f / 1486f));
        GuessingHall lightest = Draws.round("ab*1;cde*9;", 0, 1, 5);
        Checks.due("letterOf(a, 1) of a weight of 1 in all", lightest.letterOf(0, 1), ONE_AS_FLOAT);
        Checks.due("letterOf(c, 1) of a weight of 1 in all", lightest.letterOf(2, 1), 0);
        GuessingHall thirds = Draws.round("ab*1;cd*2;efg*99;", 0, 1, 5);
        Checks.due("letterOf(a, 1): longer words do not count", thirds.letterOf(0, 1), 0x3eaaaaab);
        Checks.due("letterOf(c, 1): longer words do not count", thirds.letterOf(2, 1), 0x3f2aaaab);
    }

    // ---- Promise 16: fits

    @Sentence(promise = 16, value = "`what`: 0: the words, as a set; 1: how many; 2: their weights together; "
        + "3: the letter that is not guessed and fits most, of several the lowest; 4: how much that fits")
    static void fitsOfEachThing() {
        int[] all = {63, 6, 63, 2, 34};
        int[] some = {3, 2, 3, 2, 2};
        GuessingHall hall = IN_ROUND.get();
        dueFits("at first", hall, all);
        hall.guess(0);
        dueFits("behind a", hall, some);
        hall.guess(2);
        dueFits("of the last word", hall, 1, 1, 1, 1, 1);
        GuessingHall most = Draws.round(Checks.list(16, 99), 15, 1, 5);
        dueFits("of sixteen words", most, 65535, 16, 1584, 'x' - 'a', 1584);
        most.guess('x' - 'a');
        dueFits("of sixteen words that fit alike", most, 65535, 16, 1584, 0, 99);
        GuessingHall last = Draws.round("yz*1;", 0, 1, 5);
        dueFits("of two letters that fit alike", last, 1, 1, 1, 24, 1);
        last.guess(24);
        dueFits("of the last letter", last, 1, 1, 1, 25, 1);
    }

    private static void dueFits(String when, GuessingHall hall, int... due) {
        for (int what = 0; what < 5; what++) {
            Checks.due("fits(" + what + ") " + when, hall.fits(what), due[what]);
        }
    }

    @Sentence(promise = 16, value = "INVALID_ARGUMENT if what is out of range")
    static void fitsOutOfRange() {
        Checks.due("fits(-1)", IN_ROUND.get().fits(-1), Checks.INVALID);
        Checks.due("fits(5)", IN_ROUND.get().fits(5), Checks.INVALID);
        Checks.due("fits(5) without a round", READY.get().fits(5), Checks.INVALID);
        for (int far : Checks.FAR) {
            Checks.due("fits(" + far + ")", IN_ROUND.get().fits(far), Checks.INVALID);
        }
    }

    @Sentence(promise = 16, value = "NOT_POSSIBLE without a round")
    static void fitsWithoutARound() {
        for (int what = 0; what < 5; what++) {
            Checks.due("fits(" + what + ") before one", READY.get().fits(what), Checks.NOT_POSSIBLE);
            Checks.due("fits(" + what + ") behind one", OVER.get().fits(what), Checks.NOT_POSSIBLE);
            Checks.due("fits(" + what + ") in a new hall", new GuessingHall().fits(what), Checks.NOT_POSSIBLE);
        }
    }

    // ---- Promise 17: letterOf

    @Sentence(promise = 17, value = "`letter`: 0 to 25")
    static void letterOfFirstAndLast() {
        GuessingHall hall = Draws.round("az*3;zy*4;", 0, 1, 5);
        Checks.due("letterOf(0, 0)", hall.letterOf(0, 0), 3);
        Checks.due("letterOf(25, 0)", hall.letterOf(25, 0), 7);
    }

    @Sentence(promise = 17, value = "`what`: 0: how much it fits; 1: the bits of its chance, as a float; "
        + "2: of the words that fit how many would fit at most behind it, whichever of them is the word of the round "
        + "(itself too, also if it would be open then)")
    static void letterOfEachThing() {
        GuessingHall hall = IN_ROUND.get();
        // a stands at 1010, 1010, 0010, 1000, 1110, nowhere; c at nowhere, 0101, nowhere, nowhere, nowhere, 1010
        Checks.due("letterOf(a, 0)", hall.letterOf(0, 0), 31);
        Checks.due("letterOf(a, 1)", hall.letterOf(0, 1), Float.floatToIntBits(31f / 63f));
        Checks.due("letterOf(a, 2)", hall.letterOf(0, 2), 2);
        Checks.due("letterOf(c, 2): those that have it not", hall.letterOf(2, 2), 4);
        Checks.due("letterOf(e, 2): all have it not", hall.letterOf(4, 2), 6);
        GuessingHall one = Draws.round("zz*1;", 0, 1, 5);
        Checks.due("letterOf(z, 2): the word itself, open then", one.letterOf(25, 2), 1);
        Checks.due("letterOf(a, 2): the word itself", one.letterOf(0, 2), 1);
        GuessingHall most = Draws.round(Checks.list(16, 99), 0, 1, 5);
        Checks.due("letterOf(x, 2): all at the same place", most.letterOf('x' - 'a', 2), 16);
        Checks.due("letterOf(a, 2): all but one", most.letterOf(0, 2), 15);
    }

    @Sentence(promise = 17, value = "INVALID_ARGUMENT if an argument is out of range")
    static void letterOfOutOfRange() {
        GuessingHall hall = IN_ROUND.get();
        for (int what = 0; what < 3; what++) {
            Checks.due("letterOf(-1, " + what + ")", hall.letterOf(-1, what), Checks.INVALID);
            Checks.due("letterOf(26, " + what + ")", hall.letterOf(26, what), Checks.INVALID);
        }
        Checks.due("letterOf(0, -1)", hall.letterOf(0, -1), Checks.INVALID);
        Checks.due("letterOf(0, 3)", hall.letterOf(0, 3), Checks.INVALID);
        for (int far : Checks.FAR) {
            Checks.due("letterOf(" + far + ", 0)", hall.letterOf(far, 0), Checks.INVALID);
            Checks.due("letterOf(0, " + far + ")", hall.letterOf(0, far), Checks.INVALID);
        }
    }

    @Sentence(promise = 17, value = "NOT_POSSIBLE without a round")
    static void letterOfWithoutARound() {
        for (int what = 0; what < 3; what++) {
            Checks.due("letterOf(0, " + what + ") before one", READY.get().letterOf(0, what), Checks.NOT_POSSIBLE);
            Checks.due("letterOf(0, " + what + ") behind one", OVER.get().letterOf(0, what), Checks.NOT_POSSIBLE);
        }
    }

    @Sentence(promise = 17, value = "or if it is guessed")
    static void letterOfAGuessedLetter() {
        for (int letter : new int[] {0, 3, 25}) {
            GuessingHall hall = IN_ROUND.get();
            hall.guess(letter);
            for (int what = 0; what < 3; what++) {
                Checks.due("letterOf(" + letter + ", " + what + ")", hall.letterOf(letter, what), Checks.NOT_POSSIBLE);
                Checks.isTrue("letterOf(1, " + what + ") is none", hall.letterOf(1, what) >= 0);
            }
        }
    }

    // ---- Promise 18: sharpest

    @Sentence(promise = 18, value = "Finds the letter that is not guessed by which the fewest words would fit at most "
        + "(as letterOf() with 2), of several the lowest.")
    static void sharpestOfSeveral() {
        GuessingHall alike = Draws.round("zy*1;", 0, 1, 5);
        Checks.due("sharpest() of all alike", alike.sharpest(), 0);
        alike.guess(0);
        Checks.due("sharpest() behind a", alike.sharpest(), 1);
        GuessingHall last = Draws.round("az*1;za*1;", 0, 1, 5);
        Checks.due("sharpest() of a and z", last.sharpest(), 0);
        GuessingHall only = Draws.round("yz*1;yy*1;", 0, 1, 5);
        Checks.due("sharpest() of y and z", only.sharpest(), 24);
        only.guess(24);
        Checks.due("sharpest() of the last word", only.sharpest(), 0);
        GuessingHall far = Draws.round("bbz*1;bzb*1;zbc*1;", 0, 1, 5);
        // b stands at 110, 101, 010, c only in one of them, z at 001, 010, 100
        Checks.due("sharpest() of b and z", far.sharpest(), 1);
        far.guess(0);
        Checks.due("sharpest() of b and z behind a", far.sharpest(), 1);
        GuessingHall most = Draws.round(Checks.list(17, 1).substring(5), 0, 1, 5);
        most.guess(0);
        Checks.due("letterOf(b, 2): fifteen of sixteen words", most.letterOf(1, 2), 15);
        Checks.due("sharpest() of sixteen words that one letter parts by one", most.sharpest(), 1);
        Checks.due("sharpest() of z alone", Draws.round("bz*1;zb*1;zz*1;ba*1;", 0, 1, 5).sharpest(), 25);
    }

    @Sentence(promise = 18, value = "NOT_POSSIBLE without a round")
    static void sharpestWithoutARound() {
        Checks.due("sharpest() before one", READY.get().sharpest(), Checks.NOT_POSSIBLE);
        Checks.due("sharpest() behind one", OVER.get().sharpest(), Checks.NOT_POSSIBLE);
        Checks.due("sharpest() in a new hall", new GuessingHall().sharpest(), Checks.NOT_POSSIBLE);
    }

    // ---- Promise 19: next

    @Sentence(promise = 19, value = "Returns the word that begin() would draw.")
    static void nextOfFirstAndLast() {
        GuessingHall hall = Checks.hall(Checks.list(16, 99), 50);
        for (int word = 0; word < 16; word++) {
            hall.seed(Draws.before(word * 99 * 65536));
            Checks.due("next()", hall.next(), word);
            hall.seed(Draws.before((word + 1) * 99 * 65536 - 1));
            Checks.due("next()", hall.next(), word);
            hall.begin(1);
            Checks.due("wordOf(" + word + ", 3)", hall.wordOf(word, 3), 1);
            hall.undo();
        }
        hall.seed(2147483647);
        Checks.due("next() does not draw", hall.count(10), 2147483647);
        Checks.due("next() without players", Checks.hall("ab*1;").next(), 0);
        Checks.due("next() with an empty purse", Checks.hall("ab*1;", 0).next(), 0);
    }

    @Sentence(promise = 19, value = "NOT_POSSIBLE in a round")
    static void nextInARound() {
        Checks.due("next() in one", IN_ROUND.get().next(), Checks.NOT_POSSIBLE);
        Checks.isTrue("next() behind one", OVER.get().next() >= 0);
    }

    @Sentence(promise = 19, value = "or without words")
    static void nextWithoutWords() {
        Checks.due("next() in a new hall", new GuessingHall().next(), Checks.NOT_POSSIBLE);
        Checks.due("next() with players alone", Checks.hall("", 5).next(), Checks.NOT_POSSIBLE);
    }
}
