import java.nio.charset.StandardCharsets;
import java.util.List;
import java.util.TreeSet;
import java.util.function.IntUnaryOperator;

/** What the tests share: counting what is wrong, setting games up, feeding texts and hearing what is told. */
abstract class Checks {
    static final int WIN = 0;
    static final int THREAT = 1;
    static final int FORCED = 2;
    static final int SLIP = 3;
    static final int MISSED = 4;
    static final int TURN = 5;

    static final int MIN = Integer.MIN_VALUE;
    static final int MAX = Integer.MAX_VALUE;
    /** A board of 4 by 4 that these moves fill without a row of 4. */
    static final int[] FULL_BOARD = {0, 2, 1, 3, 6, 4, 7, 5, 8, 10, 9, 11, 14, 12, 15, 13};

    // An int that is one of these too large wraps around to a right one in a byte, in a short, in a shift, when it is
    // doubled, or when it is made an index of rows of six, five or four.
    private static final int[] WRAPS = {16, 32, 64, 256, 65536, 1 << 24, 1 << 30, 1 << 31, 715827883, 1431655766,
        858993459, 858993460};

    private static int checks;
    private static int wrong;
    private static String sentence = "";

    /** Names what the checks that follow hold to. */
    static void about(String words) {
        sentence = words;
    }

    static void due(String call, int got, int want) {
        checks++;
        if (got != want) {
            wrong++;
            System.out.println(sentence + ": " + call + " answered " + got + ", due is " + want);
        }
    }

    static void due(String call, boolean got, boolean want) {
        due(call, got ? 1 : 0, want ? 1 : 0);
    }

    static void due(String call, String got, String want) {
        checks++;
        if (!got.equals(want)) {
            wrong++;
            System.out.println(sentence + ": " + call + " told '" + got + "', due is '" + want + "'");
        }
    }

    static void finish(String test) {
        System.out.println(test + ": " + checks + " checks, " + wrong + " wrong");
        if (wrong != 0) {
            System.exit(1);
        }
    }

    /** From low to high a call is met; it is refused on both sides, far off, and where an int wraps around. */
    static void dueWithin(String call, int low, int high, int refusal, IntUnaryOperator answer) {
        TreeSet<Integer> tried = new TreeSet<>();
        for (int off = -2; off <= 2; off++) {
            tried.add(low + off);
            tried.add(high + off);
        }
        for (int wrap : WRAPS) {
            tried.add(low + wrap);
            tried.add(low - wrap);
            tried.add(high + wrap);
            tried.add(high - wrap);
        }
        tried.addAll(List.of(MIN, MIN + 1, -1, MAX - 1, MAX));
        for (int n : tried) {
            boolean within = low <= n && n <= high;
            String name = call.replace("#", Integer.toString(n));
            int got = answer.applyAsInt(n);
            if (within) {
                due(name + " refused", got == refusal, false);
            } else {
                due(name, got, refusal);
            }
        }
    }

    static GameTeller of(int w, int h, int k, boolean gravity, boolean loses, int... cells) {
        GameTeller teller = new GameTeller();
        due("game", teller.game(w, h, k, gravity, loses), true);
        return playAll(teller, cells);
    }

    static GameTeller threeByThree(int... cells) {
        return playAll(new GameTeller(), cells);
    }

    static GameTeller fullBoard() {
        return of(4, 4, 4, false, false, FULL_BOARD);
    }

    static GameTeller playAll(GameTeller teller, int... cells) {
        for (int cell : cells) {
            due("play(" + cell + ")", teller.play(cell), teller.look(5));
        }
        due("moves", teller.look(5), cells.length);
        return teller;
    }

    static String wordsOf(GameTeller teller, int n, int level) {
        return told(teller, teller.words(n, level));
    }

    static String taleOf(GameTeller teller, int level) {
        return told(teller, teller.tale(level));
    }

    static String told(GameTeller teller, int bytes) {
        StringBuilder text = new StringBuilder();
        for (int i = 0; i < bytes; i++) {
            text.append((char) teller.octet(i));
        }
        due("octet behind the last", teller.octet(bytes), -1);
        return text.toString();
    }

    static int readText(GameTeller teller, String text) {
        feedText(teller, text);
        return teller.read(text.length());
    }

    /** Feeds a text, with zeros behind it till twenty bytes are full. */
    static void feedText(GameTeller teller, String text) {
        byte[] bytes = text.getBytes(StandardCharsets.ISO_8859_1);
        int ahead = teller.look(9);
        for (int at = 0; at < bytes.length; at += 20) {
            int[] five = new int[5];
            for (int i = at; i < at + 20 && i < bytes.length; i++) {
                five[(i - at) / 4] |= (bytes[i] & 255) << (24 - (i - at) % 4 * 8);
            }
            due("feed", teller.feed(five[0], five[1], five[2], five[3], five[4]), ahead + at + 20);
        }
    }

    static String nameOf(int cell, int width) {
        return "" + "abcd".charAt(cell % width) + (cell / width + 1);
    }
}
