/** Promises 1 to 26 together: long runs of calls, made by a reckoned sequence, answered as PlainHall does. */
public final class RandomRunsTest {
    private static final int RUNS = 4000;
    private static final int CALLS = 512;

    private final long first;
    private long number;
    private GuessingHall hall;
    private PlainHall plain;
    private int calls;

    private RandomRunsTest(long first) {
        this.first = first;
    }

    public static void main(String[] args) {
        for (int run = 1; run <= RUNS; run++) {
            new RandomRunsTest(run).play();
        }
        Checks.finish();
    }

    private void play() {
        number = first * 0x9E3779B97F4A7C15L;
        hall = new GuessingHall();
        plain = new PlainHall();
        calls = 0;
        int bench = below(5);
        for (int player = 0; player < bench; player++) {
            seat(below(3) == 0 ? below(1000) : 20 + below(200));
        }
        typeList();
        due("read()", hall.read(), plain.read());
        while (calls < CALLS - 60) {
            step();
        }
        while (calls < CALLS) {
            look();
        }
    }

    private int below(int bound) {
        number ^= number << 13;
        number ^= number >>> 7;
        number ^= number << 17;
        return (int) ((number >>> 1) % bound);
    }

    private void due(String call, int got, int want) {
        calls++;
        Checks.due(got == want ? "" : "run " + first + ", call " + calls + ": " + call, got, want);
    }

    private void step() {
        int kind = below(40);
        boolean running = plain.count(2) == 1;
        if (kind < 10) {
            if (running) {
                guess();
            } else {
                int stake = below(8) == 0 ? number(0, 51) : 1 + below(6);
                due("begin(" + stake + ")", hall.begin(stake), plain.begin(stake));
            }
        } else if (kind < 13) {
            int player = number(0, 4);
            int to = below(4) == 0 ? number(0, 4) : player + (below(2) == 0 ? 1 : -1);
            int letter = likelyLetter();
            due("whisper(" + player + ", " + to + ", " + letter + ")", hall.whisper(player, to, letter),
                plain.whisper(player, to, letter));
        } else if (kind < 14) {
            int word = number(0, Math.max(plain.count(0) - 1, 0));
            due("tell(" + word + ")", hall.tell(word), plain.tell(word));
        } else if (kind < 20) {
            settle();
        } else if (kind < 22) {
            remember();
        } else if (kind == 22 && !running) {
            typeList();
            due("read()", hall.read(), plain.read());
        } else {
            look();
        }
    }

    private void guess() {
        int letter = likelyLetter();
        due("guess(" + letter + ")", hall.guess(letter), plain.guess(letter));
    }

    /** Words here are made of the first letters, so these hit often. */
    private int likelyLetter() {
        return below(3) == 0 ? number(0, 25) : below(6);
    }

    private void settle() {
        int kind = below(12);
        if (kind == 0) {
            seat(number(0, 999));
        } else if (kind < 4) {
            int word = number(0, 15);
            int weight = number(1, 99);
            due("word(" + word + ", " + weight + ")", hall.word(word, weight), plain.word(word, weight));
        } else if (kind < 6) {
            int value = number(1, 12);
            int what = below(8) == 0 ? number(0, 1) : 0;
            due("set(" + what + ", " + value + ")", hall.set(what, value), plain.set(what, value));
        } else if (kind < 8) {
            int seed = below(6) == 0 ? number(0, Integer.MAX_VALUE) : below(Integer.MAX_VALUE);
            due("seed(" + seed + ")", hall.seed(seed), plain.seed(seed));
        } else {
            int player = number(0, 4);
            int to = number(0, 4);
            int coins = below(3) == 0 ? number(1, 999) : 1 + below(40);
            due("lend(" + player + ", " + to + ", " + coins + ")", hall.lend(player, to, coins),
                plain.lend(player, to, coins));
        }
    }

    private void remember() {
        int kind = below(8);
        if (kind < 2) {
            due("keep()", hall.keep(), plain.keep());
        } else if (kind == 2) {
            due("restore()", hall.restore(), plain.restore());
        } else {
            due("undo()", hall.undo(), plain.undo());
        }
    }

    private void look() {
        int kind = below(14);
        if (kind < 3) {
            int what = number(0, 15);
            due("count(" + what + ")", hall.count(what), plain.count(what));
        } else if (kind < 5) {
            int word = number(0, 15);
            int what = number(0, 17);
            due("wordOf(" + word + ", " + what + ")", hall.wordOf(word, what), plain.wordOf(word, what));
        } else if (kind < 7) {
            int player = number(0, 4);
            int what = number(0, 5);
            due("playerOf(" + player + ", " + what + ")", hall.playerOf(player, what), plain.playerOf(player, what));
        } else if (kind == 7) {
            int place = number(0, 8);
            due("open(" + place + ")", hall.open(place), plain.open(place));
        } else if (kind == 8) {
            int index = number(0, 6);
            int what = number(0, 3);
            due("round(" + index + ", " + what + ")", hall.round(index, what), plain.round(index, what));
        } else if (kind == 9) {
            int what = number(0, 4);
            due("fits(" + what + ")", hall.fits(what), plain.fits(what));
        } else if (kind < 12) {
            int letter = below(2) == 0 ? below(8) : number(0, 25);
            int what = number(0, 2);
            due("letterOf(" + letter + ", " + what + ")", hall.letterOf(letter, what), plain.letterOf(letter, what));
        } else if (kind == 12) {
            due("sharpest()", hall.sharpest(), plain.sharpest());
        } else {
            due("next()", hall.next(), plain.next());
        }
    }

    private void seat(int purse) {
        due("seat(" + purse + ")", hall.seat(purse), plain.seat(purse));
    }

    /** Mostly a number of the range, at times one at its end, beside it or far outside. */
    private int number(int lowest, int highest) {
        switch (below(24)) {
            case 0:
                return lowest - 1;
            case 1:
                return highest + 1;
            case 2:
                return highest;
            case 3:
                return lowest;
            case 4:
                return below(4) == 0 ? Checks.FAR[below(Checks.FAR.length)] : lowest;
            default:
                return lowest + below(highest - lowest < 0 ? 1 : Math.max(highest - lowest, 1));
        }
    }

    private void typeList() {
        due("clearText()", hall.clearText(), plain.clearText());
        int words = below(3) == 0 ? below(18) : 2 + below(8);
        int letters = 2 + below(below(3) == 0 ? 7 : 3);
        int kinds = 2 + below(5);
        StringBuilder list = new StringBuilder();
        for (int word = 0; word < words; word++) {
            int length = below(5) == 0 ? 2 + below(7) : letters;
            for (int place = 0; place < length; place++) {
                list.append((char) ('a' + below(kinds)));
            }
            list.append('*').append(1 + below(below(2) == 0 ? 9 : 99)).append(';');
        }
        if (below(3) != 0) {
            list = new StringBuilder(withoutRepeats(list.toString()));
        }
        if (below(6) == 0) {
            spoil(list);
        }
        for (int index = 0; index < list.length() && index < 121; index++) {
            due("type", hall.type(list.charAt(index)), plain.type(list.charAt(index)));
        }
        due("fault(0)", hall.fault(0), plain.fault(0));
        due("fault(1)", hall.fault(1), plain.fault(1));
    }

    private static String withoutRepeats(String list) {
        StringBuilder kept = new StringBuilder(";");
        for (String word : list.split(";")) {
            boolean isNew = !word.isEmpty() && kept.indexOf(";" + word.substring(0, word.indexOf('*') + 1)) < 0;
            if (isNew && kept.length() + word.length() <= 120) {
                kept.append(word).append(';');
            }
        }
        return kept.substring(1);
    }

    private void spoil(StringBuilder list) {
        String signs = "a*;019z ~`{/:";
        char sign = signs.charAt(below(signs.length()));
        int place = below(list.length() + 1);
        if (place == list.length() || below(2) == 0) {
            list.insert(place, sign);
        } else if (below(2) == 0) {
            list.setCharAt(place, sign);
        } else {
            list.setLength(place);
        }
    }
}
