/** A hall in which words are guessed letter by letter; ../shared/DOC.md says what each call promises. */
public final class GuessingHall {
    public static final int INVALID_ARGUMENT = -1;
    public static final int NOT_POSSIBLE = -2;
    public static final int LIMIT_REACHED = -3;
    public static final int NOT_FOUND = -4;

    private static final int MOST_WORDS = 16;
    private static final int FEWEST_LETTERS = 2;
    private static final int MOST_LETTERS = 8;
    private static final int MOST_WEIGHT = 99;
    private static final int ALPHABET = 26;
    private static final int NO_LETTER = 26;
    private static final int MOST_PLAYERS = 5;
    private static final int MOST_COINS = 999;
    private static final int MOST_STAKE = 50;
    private static final int HOUSE = 5;
    private static final int FIRST_MISS_LIMIT = 7;
    private static final int HIGHEST_MISS_LIMIT = 12;
    private static final int MOST_PAST_ROUNDS = 6;
    private static final int MOST_STATES = 4;
    private static final int MOST_CHARACTERS = 120;
    private static final int LOWEST_CHARACTER = 32;
    private static final int HIGHEST_CHARACTER = 126;
    private static final int FIRST_PLACE_CODE = 10;

    private final State now = new State();
    private final State snapshot = new State();
    private final History history = new History();
    private final Text text = new Text();
    private boolean hasSnapshot = false;

    public GuessingHall() {
    }

    // ---- words, players

    public int word(int word, int weight) {
        if (!now.words.has(word) || !isBetween(weight, 1, MOST_WEIGHT)) {
            return INVALID_ARGUMENT;
        }
        if (now.round.running) {
            return NOT_POSSIBLE;
        }
        history.record(now);
        int before = now.words.weight.at(word);
        now.words.weight.put(word, weight);
        return before;
    }

    public int seat(int purse) {
        if (!isBetween(purse, 0, MOST_COINS)) {
            return INVALID_ARGUMENT;
        }
        if (now.round.running) {
            return NOT_POSSIBLE;
        }
        if (now.bench.size >= MOST_PLAYERS) {
            return LIMIT_REACHED;
        }
        history.record(now);
        return now.bench.add(purse);
    }

    public int lend(int player, int to, int coins) {
        if (!now.bench.has(player) || !now.bench.has(to) || player == to || !isBetween(coins, 1, MOST_COINS)) {
            return INVALID_ARGUMENT;
        }
        if (now.bench.purse.at(player) < coins) {
            return NOT_POSSIBLE;
        }
        history.record(now);
        now.bench.purse.add(player, -coins);
        now.bench.purse.add(to, coins);
        return now.bench.purse.at(player);
    }

    public int set(int what, int value) {
        if (what != 0 || !isBetween(value, 1, HIGHEST_MISS_LIMIT)) {
            return INVALID_ARGUMENT;
        }
        if (now.round.running) {
            return NOT_POSSIBLE;
        }
        history.record(now);
        int before = now.missLimit;
        now.missLimit = value;
        return before;
    }

    public int seed(int number) {
        if (number < 0) {
            return INVALID_ARGUMENT;
        }
        history.record(now);
        int before = now.drawNumber;
        now.drawNumber = number;
        return before;
    }

    // ---- rounds

    public int begin(int stake) {
        if (!isBetween(stake, 1, MOST_STAKE)) {
            return INVALID_ARGUMENT;
        }
        if (!now.canBegin(stake)) {
            return NOT_POSSIBLE;
        }
        history.record(now);
        now.beginRound(stake);
        return now.words.length.at(now.round.word);
    }

    public int guess(int letter) {
        if (!isLetter(letter)) {
            return INVALID_ARGUMENT;
        }
        if (!now.round.takes(letter)) {
            return NOT_POSSIBLE;
        }
        history.record(now);
        return now.guessLetter(letter);
    }

    public int tell(int word) {
        if (!now.words.has(word)) {
            return INVALID_ARGUMENT;
        }
        if (!now.round.running) {
            return NOT_POSSIBLE;
        }
        history.record(now);
        return now.tellWord(word) ? 1 : 0;
    }

    public int whisper(int player, int to, int letter) {
        if (!now.bench.has(player) || !now.bench.has(to) || !isLetter(letter)) {
            return INVALID_ARGUMENT;
        }
        if (!now.round.takes(letter) || Math.abs(player - to) != 1) {
            return NOT_POSSIBLE;
        }
        history.record(now);
        int before = now.bench.hint.at(to);
        now.bench.hint.put(to, letter);
        now.bench.whisperer.put(to, player);
        return before;
    }

    // ---- what there is

    public int wordOf(int word, int what) {
        Words words = now.words;
        if (!words.has(word)) {
            return INVALID_ARGUMENT;
        }
        switch (what) {
            case 0:
                return words.length.at(word);
            case 1:
                return words.weight.at(word);
            case 2:
                return words.letterSet(word);
            case 3:
                return words.drawn.at(word);
            case 4:
                return fitOf(word);
            default:
                return letterAtCode(word, what);
        }
    }

    public int playerOf(int player, int what) {
        Bench bench = now.bench;
        if (!bench.has(player)) {
            return INVALID_ARGUMENT;
        }
        switch (what) {
            case 0:
                return bench.purse.at(player);
            case 1:
                return bench.won.at(player);
            case 2:
                return bench.hits.at(player);
            case 3:
                return bench.misses.at(player);
            case 4:
                return bench.hasHint(player) ? bench.hint.at(player) : NOT_FOUND;
            case 5:
                return bench.hasHint(player) ? bench.whisperer.at(player) : NOT_FOUND;
            default:
                return INVALID_ARGUMENT;
        }
    }

    public int open(int place) {
        if (place < 0) {
            return INVALID_ARGUMENT;
        }
        if (!now.round.running) {
            return NOT_POSSIBLE;
        }
        if (place >= now.words.length.at(now.round.word)) {
            return NOT_FOUND;
        }
        int letter = now.words.letterAt(now.round.word, place);
        return holds(now.round.guessed, letter) ? letter : NO_LETTER;
    }

    public int round(int index, int what) {
        if (index < 0 || !isBetween(what, 0, 3)) {
            return INVALID_ARGUMENT;
        }
        if (index >= now.past.size) {
            return NOT_FOUND;
        }
        switch (what) {
            case 0:
                return now.past.word.at(index);
            case 1:
                return now.past.winner.at(index);
            case 2:
                return now.past.misses.at(index);
            default:
                return now.past.stake.at(index);
        }
    }

    public int count(int what) {
        if (!isBetween(what, 0, 15)) {
            return INVALID_ARGUMENT;
        }
        if (isBetween(what, 3, 7)) {
            return now.round.running ? countOfRound(what) : NOT_FOUND;
        }
        return countOfHall(what);
    }

    // ---- what fits

    public int fits(int what) {
        if (!isBetween(what, 0, 4)) {
            return INVALID_ARGUMENT;
        }
        if (!now.round.running) {
            return NOT_POSSIBLE;
        }
        int fitting = now.fitting();
        switch (what) {
            case 0:
                return fitting;
            case 1:
                return Integer.bitCount(fitting);
            case 2:
                return now.words.weightOf(fitting);
            case 3:
                return now.likeliestLetter(fitting);
            default:
                return now.words.weightHaving(fitting, now.likeliestLetter(fitting));
        }
    }

    public int letterOf(int letter, int what) {
        if (!isLetter(letter) || !isBetween(what, 0, 2)) {
            return INVALID_ARGUMENT;
        }
        if (!now.round.takes(letter)) {
            return NOT_POSSIBLE;
        }
        int fitting = now.fitting();
        switch (what) {
            case 0:
                return now.words.weightHaving(fitting, letter);
            case 1:
                return bitsOf(chanceOf(now.words.weightHaving(fitting, letter), now.words.weightOf(fitting)));
            default:
                return now.words.largestGroup(fitting, letter);
        }
    }

    public int sharpest() {
        return now.round.running ? now.sharpestLetter(now.fitting()) : NOT_POSSIBLE;
    }

    public int next() {
        if (now.round.running || now.words.size == 0) {
            return NOT_POSSIBLE;
        }
        return now.words.drawnBy(numberBehind(now.drawNumber));
    }

    // ---- snapshot, undo

    public int keep() {
        snapshot.copyFrom(now);
        hasSnapshot = true;
        return now.bench.size;
    }

    public int restore() {
        if (!hasSnapshot) {
            return NOT_POSSIBLE;
        }
        history.record(now);
        now.copyFrom(snapshot);
        return now.bench.size;
    }

    public int undo() {
        if (history.size == 0) {
            return NOT_POSSIBLE;
        }
        history.takeLatest(now);
        return history.size;
    }

    // ---- texts

    public int type(int character) {
        if (!isBetween(character, LOWEST_CHARACTER, HIGHEST_CHARACTER)) {
            return INVALID_ARGUMENT;
        }
        if (text.length >= MOST_CHARACTERS) {
            return LIMIT_REACHED;
        }
        text.append(character);
        return text.length;
    }

    public int clearText() {
        int before = text.length;
        text.length = 0;
        return before;
    }

    public int fault(int what) {
        if (!isBetween(what, 0, 1)) {
            return INVALID_ARGUMENT;
        }
        text.scan();
        if (!text.hasFault()) {
            return NOT_FOUND;
        }
        return what == 0 ? text.faultPlace : text.faultReason;
    }

    public int read() {
        if (now.round.running) {
            return NOT_POSSIBLE;
        }
        text.scan();
        if (text.hasFault()) {
            return NOT_POSSIBLE;
        }
        history.record(now);
        now.words.copyFrom(text.list);
        return now.words.size;
    }

    // ---- helpers of the calls

    private int fitOf(int word) {
        if (!now.round.running) {
            return NOT_FOUND;
        }
        return holds(now.fitting(), word) ? 1 : 0;
    }

    private int letterAtCode(int word, int what) {
        if (!isBetween(what, FIRST_PLACE_CODE, FIRST_PLACE_CODE + now.words.length.at(word) - 1)) {
            return INVALID_ARGUMENT;
        }
        return now.words.letterAt(word, what - FIRST_PLACE_CODE);
    }

    private int countOfRound(int what) {
        switch (what) {
            case 3:
                return now.round.turn;
            case 4:
                return now.round.pot;
            case 5:
                return now.round.misses;
            case 6:
                return now.round.guessed;
            default:
                return now.openPlaces();
        }
    }

    private int countOfHall(int what) {
        switch (what) {
            case 0:
                return now.words.size;
            case 1:
                return now.bench.size;
            case 2:
                return now.round.running ? 1 : 0;
            case 8:
                return now.rounds;
            case 9:
                return now.house;
            case 10:
                return now.drawNumber;
            case 11:
                return now.words.weightSum();
            case 12:
                return history.size;
            case 13:
                return text.length;
            case 14:
                return hasSnapshot ? 1 : 0;
            default:
                return now.missLimit;
        }
    }

    private static boolean isBetween(int value, int lowest, int highest) {
        return value >= lowest && value <= highest;
    }

    private static boolean isLetter(int letter) {
        return isBetween(letter, 0, ALPHABET - 1);
    }

    private static boolean holds(int bits, int number) {
        return (bits & (1 << number)) != 0;
    }

    private static int numberBehind(int drawNumber) {
        return (int) ((drawNumber * 1103515245L + 12345L) % 2147483648L);
    }

    private static float chanceOf(int part, int whole) {
        return whole > 0 ? (float) part / (float) whole : 0f;
    }

    /** LANGUAGE.md has no floatToIntBits: the bits of a chance (0 to 1) are put together by steps that are all exact. */
    private static int bitsOf(float chance) {
        if (!(chance > 0f)) {
            return 0;
        }
        float scaled = chance;
        int exponent = 127;
        for (int step = 0; step < 126 && scaled < 1f; step++) {
            scaled = scaled * 2f;
            exponent--;
        }
        return (exponent << 23) + (int) ((scaled - 1f) * 8388608f);
    }

    /** A row of numbers that looks at every index itself, so that no use of it can make the machine throw. */
    private static final class Row {
        private final int[] cells;

        Row(int length) {
            cells = new int[Math.max(length, 0)];
        }

        int at(int index) {
            return index >= 0 && index < cells.length ? cells[index] : 0;
        }

        void put(int index, int value) {
            if (index >= 0 && index < cells.length) {
                cells[index] = value;
            }
        }

        void add(int index, int value) {
            put(index, at(index) + value);
        }

        void copyFrom(Row other) {
            System.arraycopy(other.cells, 0, cells, 0, Math.min(other.cells.length, cells.length));
        }
    }

    /** A list of words; sets of words and of places are bits. */
    private static final class Words {
        int size;
        final Row length = new Row(MOST_WORDS);
        final Row weight = new Row(MOST_WORDS);
        final Row drawn = new Row(MOST_WORDS);
        private final Row letters = new Row(MOST_WORDS * MOST_LETTERS);

        void copyFrom(Words other) {
            size = other.size;
            length.copyFrom(other.length);
            weight.copyFrom(other.weight);
            drawn.copyFrom(other.drawn);
            letters.copyFrom(other.letters);
        }

        boolean has(int word) {
            return word >= 0 && word < size;
        }

        int letterAt(int word, int place) {
            return letters.at(word * MOST_LETTERS + place);
        }

        void putLetter(int word, int place, int letter) {
            letters.put(word * MOST_LETTERS + place, letter);
        }

        int letterSet(int word) {
            int set = 0;
            int letterCount = length.at(word);
            for (int place = 0; place < letterCount; place++) {
                set |= 1 << letterAt(word, place);
            }
            return set;
        }

        int placesOf(int word, int letter) {
            int places = 0;
            int letterCount = length.at(word);
            for (int place = 0; place < letterCount; place++) {
                if (letterAt(word, place) == letter) {
                    places |= 1 << place;
                }
            }
            return places;
        }

        boolean areSame(int one, int other) {
            int letterCount = length.at(one);
            if (length.at(other) != letterCount) {
                return false;
            }
            for (int place = 0; place < letterCount; place++) {
                if (letterAt(one, place) != letterAt(other, place)) {
                    return false;
                }
            }
            return true;
        }

        int weightOf(int set) {
            int sum = 0;
            for (int word = 0; word < size; word++) {
                if (holds(set, word)) {
                    sum += weight.at(word);
                }
            }
            return sum;
        }

        int weightSum() {
            return weightOf(-1);
        }

        int drawnBy(int drawNumber) {
            int sum = weightSum();
            int rest = sum > 0 ? drawNumber / 65536 % sum : 0;
            int upTo = 0;
            for (int word = 0; word < size; word++) {
                upTo += weight.at(word);
                if (upTo > rest) {
                    return word;
                }
            }
            return 0;
        }

        int fitting(int hidden, int guessed) {
            int set = 0;
            for (int word = 0; word < size; word++) {
                if (looksLike(word, hidden, guessed)) {
                    set |= 1 << word;
                }
            }
            return set;
        }

        /** A place of the hidden word is open just if its letter is guessed. */
        private boolean looksLike(int word, int hidden, int guessed) {
            int letterCount = length.at(hidden);
            if (length.at(word) != letterCount) {
                return false;
            }
            for (int place = 0; place < letterCount; place++) {
                int due = letterAt(hidden, place);
                int letter = letterAt(word, place);
                boolean agrees = holds(guessed, due) ? letter == due : !holds(guessed, letter);
                if (!agrees) {
                    return false;
                }
            }
            return true;
        }

        int weightHaving(int set, int letter) {
            int sum = 0;
            for (int word = 0; word < size; word++) {
                if (holds(set, word) && placesOf(word, letter) != 0) {
                    sum += weight.at(word);
                }
            }
            return sum;
        }

        /** Words of the set stay together behind a guess just if they have the letter at the same places. */
        int largestGroup(int set, int letter) {
            int largest = 0;
            for (int word = 0; word < size; word++) {
                if (holds(set, word)) {
                    largest = Math.max(largest, groupOf(set, letter, word));
                }
            }
            return largest;
        }

        private int groupOf(int set, int letter, int word) {
            int places = placesOf(word, letter);
            int group = 0;
            for (int other = 0; other < size; other++) {
                if (holds(set, other) && placesOf(other, letter) == places) {
                    group++;
                }
            }
            return group;
        }
    }

    /** The players as they sit, each with the hint that is there for that one. */
    private static final class Bench {
        int size;
        final Row purse = new Row(MOST_PLAYERS);
        final Row won = new Row(MOST_PLAYERS);
        final Row hits = new Row(MOST_PLAYERS);
        final Row misses = new Row(MOST_PLAYERS);
        final Row hint = new Row(MOST_PLAYERS);
        final Row whisperer = new Row(MOST_PLAYERS);

        void copyFrom(Bench other) {
            size = other.size;
            purse.copyFrom(other.purse);
            won.copyFrom(other.won);
            hits.copyFrom(other.hits);
            misses.copyFrom(other.misses);
            hint.copyFrom(other.hint);
            whisperer.copyFrom(other.whisperer);
        }

        boolean has(int player) {
            return player >= 0 && player < size;
        }

        int add(int coins) {
            int player = size;
            purse.put(player, coins);
            won.put(player, 0);
            hits.put(player, 0);
            misses.put(player, 0);
            dropHint(player);
            size++;
            return player;
        }

        boolean canAllPay(int coins) {
            for (int player = 0; player < size; player++) {
                if (purse.at(player) < coins) {
                    return false;
                }
            }
            return true;
        }

        void takeFromAll(int coins) {
            for (int player = 0; player < size; player++) {
                purse.add(player, -coins);
            }
        }

        int behind(int player) {
            return player + 1 < size ? player + 1 : 0;
        }

        boolean hasHint(int player) {
            return hint.at(player) != NO_LETTER;
        }

        void dropHint(int player) {
            hint.put(player, NO_LETTER);
        }

        void dropHints() {
            for (int player = 0; player < size; player++) {
                dropHint(player);
            }
        }
    }

    /** The round that is running; what it holds says nothing when none is. */
    private static final class Round {
        boolean running;
        int word;
        int stake;
        int turn;
        int pot;
        int misses;
        int guessed;

        void copyFrom(Round other) {
            running = other.running;
            word = other.word;
            stake = other.stake;
            turn = other.turn;
            pot = other.pot;
            misses = other.misses;
            guessed = other.guessed;
        }

        boolean takes(int letter) {
            return running && !holds(guessed, letter);
        }

        int takeFromPot(int coins) {
            int taken = Math.min(coins, pot);
            pot -= taken;
            return taken;
        }
    }

    /** The latest rounds that are over, the very latest first. */
    private static final class PastRounds {
        int size;
        final Row word = new Row(MOST_PAST_ROUNDS);
        final Row winner = new Row(MOST_PAST_ROUNDS);
        final Row misses = new Row(MOST_PAST_ROUNDS);
        final Row stake = new Row(MOST_PAST_ROUNDS);

        void copyFrom(PastRounds other) {
            size = other.size;
            word.copyFrom(other.word);
            winner.copyFrom(other.winner);
            misses.copyFrom(other.misses);
            stake.copyFrom(other.stake);
        }

        void putFirst(Round over, int whoWon) {
            size = Math.min(size + 1, MOST_PAST_ROUNDS);
            for (int index = size - 1; index > 0; index--) {
                word.put(index, word.at(index - 1));
                winner.put(index, winner.at(index - 1));
                misses.put(index, misses.at(index - 1));
                stake.put(index, stake.at(index - 1));
            }
            word.put(0, over.word);
            winner.put(0, whoWon);
            misses.put(0, over.misses);
            stake.put(0, over.stake);
        }
    }

    /** All that the snapshot and the history hold: everything but the text and these two. */
    private static final class State {
        final Words words = new Words();
        final Bench bench = new Bench();
        final Round round = new Round();
        final PastRounds past = new PastRounds();
        int rounds = 0;
        /** -1 before the first round, so that the one behind is the player 0. */
        int starter = -1;
        int house = 0;
        int drawNumber = 1;
        int missLimit = FIRST_MISS_LIMIT;

        void copyFrom(State other) {
            words.copyFrom(other.words);
            bench.copyFrom(other.bench);
            round.copyFrom(other.round);
            past.copyFrom(other.past);
            rounds = other.rounds;
            starter = other.starter;
            house = other.house;
            drawNumber = other.drawNumber;
            missLimit = other.missLimit;
        }

        boolean canBegin(int stake) {
            return !round.running && words.size > 0 && bench.size > 0 && bench.canAllPay(stake);
        }

        void beginRound(int stake) {
            drawNumber = numberBehind(drawNumber);
            starter = bench.behind(starter);
            rounds++;
            round.running = true;
            round.word = words.drawnBy(drawNumber);
            round.stake = stake;
            round.turn = starter;
            round.pot = stake * bench.size;
            round.misses = 0;
            round.guessed = 0;
            bench.takeFromAll(stake);
            words.drawn.add(round.word, 1);
        }

        int guessLetter(int letter) {
            int player = round.turn;
            boolean wasHinted = bench.hint.at(player) == letter;
            bench.dropHint(player);
            round.guessed |= 1 << letter;
            int places = Integer.bitCount(words.placesOf(round.word, letter));
            if (places == 0) {
                countMiss();
                return 0;
            }
            bench.hits.add(player, 1);
            payForPlaces(player, places, wasHinted);
            if (openPlaces() == words.length.at(round.word)) {
                winRound();
            }
            return places;
        }

        private void payForPlaces(int player, int places, boolean wasHinted) {
            int coins = round.takeFromPot(places);
            int share = wasHinted ? coins / 2 : 0;
            bench.purse.add(player, coins - share);
            bench.purse.add(bench.whisperer.at(player), share);
        }

        boolean tellWord(int word) {
            if (word != round.word) {
                countMiss();
                return false;
            }
            winRound();
            return true;
        }

        private void countMiss() {
            bench.misses.add(round.turn, 1);
            round.misses++;
            if (round.misses >= missLimit) {
                house += round.pot;
                endRound(HOUSE);
            } else {
                round.turn = bench.behind(round.turn);
            }
        }

        private void winRound() {
            bench.purse.add(round.turn, round.pot);
            bench.won.add(round.turn, 1);
            endRound(round.turn);
        }

        private void endRound(int winner) {
            past.putFirst(round, winner);
            bench.dropHints();
            round.running = false;
        }

        int openPlaces() {
            int places = 0;
            int letterCount = words.length.at(round.word);
            for (int place = 0; place < letterCount; place++) {
                if (holds(round.guessed, words.letterAt(round.word, place))) {
                    places++;
                }
            }
            return places;
        }

        int fitting() {
            return words.fitting(round.word, round.guessed);
        }

        int likeliestLetter(int fitting) {
            int best = 0;
            int most = -1;
            for (int letter = 0; letter < ALPHABET; letter++) {
                int weight = round.takes(letter) ? words.weightHaving(fitting, letter) : -1;
                if (weight > most) {
                    best = letter;
                    most = weight;
                }
            }
            return best;
        }

        int sharpestLetter(int fitting) {
            int best = 0;
            int fewest = MOST_WORDS + 1;
            for (int letter = 0; letter < ALPHABET; letter++) {
                int group = round.takes(letter) ? words.largestGroup(fitting, letter) : fewest;
                if (group < fewest) {
                    best = letter;
                    fewest = group;
                }
            }
            return best;
        }
    }

    /** A ring of states that are made once and written over, so that a long run makes no new ones. */
    private static final class History {
        int size = 0;
        private int free = 0;
        private final State[] ring = new State[MOST_STATES];

        History() {
            for (int slot = 0; slot < ring.length; slot++) {
                ring[slot] = new State();
            }
        }

        void record(State state) {
            State slot = slotAt(free);
            if (slot != null) {
                slot.copyFrom(state);
                free = (free + 1) % MOST_STATES;
                size = Math.min(size + 1, MOST_STATES);
            }
        }

        void takeLatest(State into) {
            int latest = (free + MOST_STATES - 1) % MOST_STATES;
            State slot = slotAt(latest);
            if (slot != null) {
                into.copyFrom(slot);
                free = latest;
                size = Math.max(size - 1, 0);
            }
        }

        private State slotAt(int index) {
            return index >= 0 && index < ring.length ? ring[index] : null;
        }
    }

    /** The text, and what the latest scan of it as a list found. */
    private static final class Text {
        private static final int NO_FAULT = 0;
        private static final int WRONG_CHARACTER = 1;
        private static final int NINTH_LETTER = 2;
        private static final int WORD_AGAIN = 3;
        private static final int SEVENTEENTH_WORD = 4;
        /** Stands behind the text: no character of a text is 0. */
        private static final int END = 0;

        int length = 0;
        int faultPlace = 0;
        int faultReason = NO_FAULT;
        final Words list = new Words();
        private final Row characters = new Row(MOST_CHARACTERS);
        private int position = 0;

        void append(int character) {
            characters.put(length, character);
            length++;
        }

        boolean hasFault() {
            return faultReason != NO_FAULT;
        }

        void scan() {
            list.size = 0;
            position = 0;
            faultReason = NO_FAULT;
            scanWord();
            for (int words = 1; words <= MOST_WORDS && position < length && !hasFault(); words++) {
                scanWord();
            }
        }

        private void scanWord() {
            int start = position;
            if (!isSmallLetter(characterAt(start))) {
                fail(start, WRONG_CHARACTER);
            } else if (list.size >= MOST_WORDS) {
                fail(start, SEVENTEENTH_WORD);
            } else if (scanLetters() && scanSign('*') && scanWeight() && scanSign(';')) {
                addWord(start);
            }
        }

        private void addWord(int start) {
            for (int word = 0; word < list.size; word++) {
                if (list.areSame(word, list.size)) {
                    fail(start, WORD_AGAIN);
                    return;
                }
            }
            list.size++;
        }

        private boolean scanLetters() {
            int letters = 0;
            while (letters < MOST_LETTERS && isSmallLetter(characterAt(position))) {
                list.putLetter(list.size, letters, characterAt(position) - 'a');
                letters++;
                position++;
            }
            list.length.put(list.size, letters);
            if (letters < FEWEST_LETTERS) {
                return fail(position, WRONG_CHARACTER);
            }
            if (isSmallLetter(characterAt(position))) {
                return fail(position, NINTH_LETTER);
            }
            return true;
        }

        private boolean scanWeight() {
            int first = characterAt(position);
            if (!isBetween(first, '1', '9')) {
                return fail(position, WRONG_CHARACTER);
            }
            position++;
            int weight = first - '0';
            int second = characterAt(position);
            if (isBetween(second, '0', '9')) {
                position++;
                weight = weight * 10 + second - '0';
            }
            list.weight.put(list.size, weight);
            return true;
        }

        private boolean scanSign(int sign) {
            if (characterAt(position) != sign) {
                return fail(position, WRONG_CHARACTER);
            }
            position++;
            return true;
        }

        /** Answers false, so that a part that fails ends the scan of its word. */
        private boolean fail(int place, int reason) {
            faultPlace = place;
            faultReason = reason;
            return false;
        }

        private int characterAt(int place) {
            return place < length ? characters.at(place) : END;
        }

        private static boolean isSmallLetter(int character) {
            return isBetween(character, 'a', 'z');
        }
    }
}
