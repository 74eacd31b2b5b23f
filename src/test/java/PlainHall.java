import java.util.ArrayList;
import java.util.HashMap;
import java.util.List;
import java.util.Map;
import java.util.regex.Matcher;
import java.util.regex.Pattern;

/** The document told once more, as plainly as the Java library lets: what the class is measured against. */
final class PlainHall {
    private static final Pattern WORD = Pattern.compile("([a-z]{2,8})\\*([1-9][0-9]?);");

    private static final class Player {
        int purse;
        int won;
        int hits;
        int misses;
        Integer hint;
        int whisperer;

        Player copy() {
            Player copy = new Player();
            copy.purse = purse;
            copy.won = won;
            copy.hits = hits;
            copy.misses = misses;
            copy.hint = hint;
            copy.whisperer = whisperer;
            return copy;
        }
    }

    private static final class State {
        List<String> words = new ArrayList<>();
        List<Integer> weights = new ArrayList<>();
        Map<String, Integer> drawn = new HashMap<>();
        List<Player> players = new ArrayList<>();
        List<int[]> past = new ArrayList<>();
        long draw = 1;
        int limit = 7;
        int house;
        int rounds;
        int lastStarter;
        boolean running;
        String hidden;
        boolean[] isOpen;
        String guessed;
        int turn;
        int pot;
        int missed;
        int stake;

        State copy() {
            State copy = new State();
            copy.words = new ArrayList<>(words);
            copy.weights = new ArrayList<>(weights);
            copy.drawn = new HashMap<>(drawn);
            for (Player player : players) {
                copy.players.add(player.copy());
            }
            copy.past = new ArrayList<>(past);
            copy.draw = draw;
            copy.limit = limit;
            copy.house = house;
            copy.rounds = rounds;
            copy.lastStarter = lastStarter;
            copy.running = running;
            copy.hidden = hidden;
            copy.isOpen = isOpen == null ? null : isOpen.clone();
            copy.guessed = guessed;
            copy.turn = turn;
            copy.pot = pot;
            copy.missed = missed;
            copy.stake = stake;
            return copy;
        }
    }

    private State s = new State();
    private State snapshot;
    private final List<State> history = new ArrayList<>();
    private String text = "";

    private void change() {
        history.add(s.copy());
        if (history.size() == 5) {
            history.remove(0);
        }
    }

    private boolean noWord(int word) {
        return word < 0 || word >= s.words.size();
    }

    private boolean noPlayer(int player) {
        return player < 0 || player >= s.players.size();
    }

    private static boolean noLetter(int letter) {
        return letter < 0 || letter > 25;
    }

    private boolean isGuessed(int letter) {
        return s.guessed.indexOf('a' + letter) >= 0;
    }

    int word(int word, int weight) {
        if (noWord(word) || weight < 1 || weight > 99) {
            return -1;
        }
        if (s.running) {
            return -2;
        }
        change();
        return s.weights.set(word, weight);
    }

    int seat(int purse) {
        if (purse < 0 || purse > 999) {
            return -1;
        }
        if (s.running) {
            return -2;
        }
        if (s.players.size() == 5) {
            return -3;
        }
        change();
        Player player = new Player();
        player.purse = purse;
        s.players.add(player);
        return s.players.size() - 1;
    }

    int lend(int player, int to, int coins) {
        if (noPlayer(player) || noPlayer(to) || player == to || coins < 1 || coins > 999) {
            return -1;
        }
        if (s.players.get(player).purse < coins) {
            return -2;
        }
        change();
        s.players.get(to).purse += coins;
        return s.players.get(player).purse -= coins;
    }

    int set(int what, int value) {
        if (what != 0 || value < 1 || value > 12) {
            return -1;
        }
        if (s.running) {
            return -2;
        }
        change();
        int before = s.limit;
        s.limit = value;
        return before;
    }

    int seed(int number) {
        if (number < 0) {
            return -1;
        }
        change();
        long before = s.draw;
        s.draw = number;
        return (int) before;
    }

    private static long drawBehind(long draw) {
        return java.math.BigInteger.valueOf(draw).multiply(java.math.BigInteger.valueOf(1103515245))
            .add(java.math.BigInteger.valueOf(12345)).mod(java.math.BigInteger.valueOf(2147483648L)).longValueExact();
    }

    private int wordOfDraw(long draw) {
        List<Integer> lots = new ArrayList<>();
        for (int word = 0; word < s.words.size(); word++) {
            for (int lot = 0; lot < s.weights.get(word); lot++) {
                lots.add(word);
            }
        }
        return lots.get((int) (draw / 65536 % lots.size()));
    }

    int begin(int stake) {
        if (stake < 1 || stake > 50) {
            return -1;
        }
        if (s.running || s.words.isEmpty() || s.players.isEmpty()) {
            return -2;
        }
        for (Player player : s.players) {
            if (player.purse < stake) {
                return -2;
            }
        }
        change();
        s.lastStarter = s.rounds == 0 ? 0 : (s.lastStarter + 1) % s.players.size();
        s.rounds++;
        s.draw = drawBehind(s.draw);
        s.hidden = s.words.get(wordOfDraw(s.draw));
        s.drawn.merge(s.hidden, 1, Integer::sum);
        s.running = true;
        s.isOpen = new boolean[s.hidden.length()];
        s.guessed = "";
        s.missed = 0;
        s.turn = s.lastStarter;
        s.stake = stake;
        s.pot = 0;
        for (Player player : s.players) {
            player.purse -= stake;
            s.pot += stake;
        }
        return s.hidden.length();
    }

    private void over(int winner) {
        s.past.add(0, new int[] {s.words.indexOf(s.hidden), winner, s.missed, s.stake});
        s.running = false;
        for (Player player : s.players) {
            player.hint = null;
        }
    }

    private void win() {
        Player player = s.players.get(s.turn);
        player.won++;
        player.purse += s.pot;
        over(s.turn);
    }

    private void miss() {
        s.players.get(s.turn).misses++;
        s.missed++;
        if (s.missed == s.limit) {
            s.house += s.pot;
            over(5);
            return;
        }
        s.turn = (s.turn + 1) % s.players.size();
    }

    int guess(int letter) {
        if (noLetter(letter)) {
            return -1;
        }
        if (!s.running || isGuessed(letter)) {
            return -2;
        }
        change();
        Player player = s.players.get(s.turn);
        Integer hint = player.hint;
        player.hint = null;
        s.guessed += (char) ('a' + letter);
        int places = 0;
        int coins = 0;
        for (int place = 0; place < s.hidden.length(); place++) {
            if (s.hidden.charAt(place) == 'a' + letter) {
                s.isOpen[place] = true;
                places++;
                if (s.pot > 0) {
                    s.pot--;
                    coins++;
                }
            }
        }
        if (places == 0) {
            miss();
            return 0;
        }
        player.hits++;
        player.purse += coins;
        if (hint != null && hint == letter) {
            player.purse -= coins / 2;
            s.players.get(player.whisperer).purse += coins / 2;
        }
        if (opened() == s.hidden.length()) {
            win();
        }
        return places;
    }

    private int opened() {
        int opened = 0;
        for (boolean one : s.isOpen) {
            opened += one ? 1 : 0;
        }
        return opened;
    }

    int tell(int word) {
        if (noWord(word)) {
            return -1;
        }
        if (!s.running) {
            return -2;
        }
        change();
        if (s.words.get(word).equals(s.hidden)) {
            win();
            return 1;
        }
        miss();
        return 0;
    }

    int whisper(int player, int to, int letter) {
        if (noPlayer(player) || noPlayer(to) || noLetter(letter)) {
            return -1;
        }
        if (!s.running || player - to != 1 && to - player != 1 || isGuessed(letter)) {
            return -2;
        }
        change();
        Player hearer = s.players.get(to);
        int before = hearer.hint == null ? 26 : hearer.hint;
        hearer.hint = letter;
        hearer.whisperer = player;
        return before;
    }

    private static boolean fits(String word, String hidden, boolean[] isOpen, String guessed) {
        if (word.length() != hidden.length()) {
            return false;
        }
        for (int place = 0; place < word.length(); place++) {
            if (isOpen[place]) {
                if (word.charAt(place) != hidden.charAt(place)) {
                    return false;
                }
            } else if (guessed.indexOf(word.charAt(place)) >= 0) {
                return false;
            }
        }
        return true;
    }

    private List<Integer> fitting() {
        List<Integer> fitting = new ArrayList<>();
        for (int word = 0; word < s.words.size(); word++) {
            if (fits(s.words.get(word), s.hidden, s.isOpen, s.guessed)) {
                fitting.add(word);
            }
        }
        return fitting;
    }

    int wordOf(int word, int what) {
        if (noWord(word)) {
            return -1;
        }
        String letters = s.words.get(word);
        if (what == 0) {
            return letters.length();
        } else if (what == 1) {
            return s.weights.get(word);
        } else if (what == 2) {
            return bits(letters);
        } else if (what == 3) {
            return s.drawn.getOrDefault(letters, 0);
        } else if (what == 4) {
            return !s.running ? -4 : fitting().contains(word) ? 1 : 0;
        } else if (what >= 10 && what < 10 + letters.length()) {
            return letters.charAt(what - 10) - 'a';
        }
        return -1;
    }

    private static int bits(String letters) {
        return letters.chars().map(letter -> 1 << (letter - 'a')).reduce(0, (one, other) -> one | other);
    }

    int playerOf(int player, int what) {
        if (noPlayer(player) || what < 0 || what > 5) {
            return -1;
        }
        Player one = s.players.get(player);
        if (what >= 4 && one.hint == null) {
            return -4;
        }
        return what == 0 ? one.purse : what == 1 ? one.won : what == 2 ? one.hits : what == 3 ? one.misses
            : what == 4 ? one.hint : one.whisperer;
    }

    int open(int place) {
        if (place < 0) {
            return -1;
        }
        if (!s.running) {
            return -2;
        }
        if (place >= s.hidden.length()) {
            return -4;
        }
        return s.isOpen[place] ? s.hidden.charAt(place) - 'a' : 26;
    }

    int round(int index, int what) {
        if (index < 0 || what < 0 || what > 3) {
            return -1;
        }
        return index >= Math.min(6, s.past.size()) ? -4 : s.past.get(index)[what];
    }

    int count(int what) {
        if (what < 0 || what > 15) {
            return -1;
        }
        if (what >= 3 && what <= 7) {
            return !s.running ? -4
                : new int[] {s.turn, s.pot, s.missed, bits(s.guessed), opened()}[what - 3];
        }
        int weights = s.weights.stream().mapToInt(weight -> weight).sum();
        return new int[] {s.words.size(), s.players.size(), s.running ? 1 : 0, 0, 0, 0, 0, 0, s.rounds, s.house,
            (int) s.draw, weights, history.size(), text.length(), snapshot == null ? 0 : 1, s.limit}[what];
    }

    private int weightOf(int letter) {
        return fitting().stream().filter(word -> letter < 0 || s.words.get(word).indexOf('a' + letter) >= 0)
            .mapToInt(word -> s.weights.get(word)).sum();
    }

    int fits(int what) {
        if (what < 0 || what > 4) {
            return -1;
        }
        if (!s.running) {
            return -2;
        }
        if (what <= 2) {
            int set = fitting().stream().mapToInt(word -> 1 << word).sum();
            return what == 0 ? set : what == 1 ? fitting().size() : weightOf(-1);
        }
        int best = -1;
        for (int letter = 25; letter >= 0; letter--) {
            if (!isGuessed(letter) && (best < 0 || weightOf(letter) >= weightOf(best))) {
                best = letter;
            }
        }
        return what == 3 ? best : weightOf(best);
    }

    /** Tries each word that fits as the word of the round, and opens the letter's places in it. */
    private int mostBehind(int letter) {
        int most = 0;
        for (int hidden : fitting()) {
            String word = s.words.get(hidden);
            boolean[] isOpen = s.isOpen.clone();
            for (int place = 0; place < isOpen.length; place++) {
                isOpen[place] |= word.charAt(place) == 'a' + letter;
            }
            String guessed = s.guessed + (char) ('a' + letter);
            int count = 0;
            for (String other : s.words) {
                count += fits(other, word, isOpen, guessed) ? 1 : 0;
            }
            most = Math.max(most, count);
        }
        return most;
    }

    int letterOf(int letter, int what) {
        if (noLetter(letter) || what < 0 || what > 2) {
            return -1;
        }
        if (!s.running || isGuessed(letter)) {
            return -2;
        }
        return what == 0 ? weightOf(letter)
            : what == 1 ? Float.floatToIntBits((float) weightOf(letter) / (float) weightOf(-1)) : mostBehind(letter);
    }

    int sharpest() {
        if (!s.running) {
            return -2;
        }
        int best = -1;
        for (int letter = 25; letter >= 0; letter--) {
            if (!isGuessed(letter) && (best < 0 || mostBehind(letter) <= mostBehind(best))) {
                best = letter;
            }
        }
        return best;
    }

    int next() {
        return s.running || s.words.isEmpty() ? -2 : wordOfDraw(drawBehind(s.draw));
    }

    int keep() {
        snapshot = s.copy();
        return s.players.size();
    }

    int restore() {
        if (snapshot == null) {
            return -2;
        }
        change();
        s = snapshot.copy();
        return s.players.size();
    }

    int undo() {
        if (history.isEmpty()) {
            return -2;
        }
        s = history.remove(history.size() - 1);
        return history.size();
    }

    int type(int character) {
        if (character < 32 || character > 126) {
            return -1;
        }
        if (text.length() == 120) {
            return -3;
        }
        text += (char) character;
        return text.length();
    }

    int clearText() {
        int before = text.length();
        text = "";
        return before;
    }

    /** The place and the reason, or null. */
    private int[] faultOfText() {
        List<String> list = new ArrayList<>();
        int start = 0;
        do {
            String rest = text.substring(start);
            boolean startsAsWord = !rest.isEmpty() && Character.isLowerCase(rest.charAt(0));
            if (startsAsWord && list.size() == 16) {
                return new int[] {start, 4};
            }
            Matcher matcher = WORD.matcher(rest);
            if (!matcher.lookingAt()) {
                int good = goodLength(rest);
                boolean isNinth = good == 8 && rest.matches("[a-z]{9}.*");
                return new int[] {start + good, isNinth ? 2 : 1};
            }
            if (list.contains(matcher.group(1))) {
                return new int[] {start, 3};
            }
            list.add(matcher.group(1));
            start += matcher.end();
        } while (start < text.length());
        return null;
    }

    /** How many characters of the text can stand at the beginning of a word of a list. */
    private static int goodLength(String rest) {
        int good = 0;
        for (int length = 1; length <= rest.length(); length++) {
            Matcher matcher = WORD.matcher(rest.substring(0, length));
            if (matcher.matches() || matcher.hitEnd()) {
                good = length;
            }
        }
        return good;
    }

    int fault(int what) {
        if (what < 0 || what > 1) {
            return -1;
        }
        int[] fault = faultOfText();
        return fault == null ? -4 : fault[what];
    }

    int read() {
        if (s.running || faultOfText() != null) {
            return -2;
        }
        change();
        s.words.clear();
        s.weights.clear();
        s.drawn.clear();
        Matcher matcher = WORD.matcher(text);
        while (matcher.find()) {
            s.words.add(matcher.group(1));
            s.weights.add(Integer.valueOf(matcher.group(2)));
        }
        return s.words.size();
    }
}
