import java.nio.charset.StandardCharsets;
import java.util.ArrayList;
import java.util.Arrays;
import java.util.HashMap;
import java.util.List;
import java.util.Map;
import java.util.regex.Matcher;
import java.util.regex.Pattern;

/** The document said again in the plainest code, slow and without any cache that a move could spoil. */
final class PlainTeller {
    private static final Pattern WORDS =
            Pattern.compile("(?:([1-9][0-9]*)\\.)?([a-d])([1-4])(?:[#!?=]|\\+[0-9]{1,2}|\\*[a-d][1-4])*");

    private int w = 3;
    private int h = 3;
    private int k = 3;
    private boolean gravity;
    private boolean loses;
    private int d = 3;
    private final int[] weights = {1, 1, 1, 1, 1, 1};
    private final List<Integer> moves = new ArrayList<>();
    private String told = "";
    private String tape = "";
    private int place;
    private Map<String, Integer> known = new HashMap<>();

    boolean game(int width, int height, int length, boolean falls, boolean rowsLose) {
        if (width < 2 || width > 4 || height < 2 || height > 4 || length < 2 || length > 4
                || length > width && length > height) {
            return false;
        }
        w = width;
        h = height;
        k = length;
        gravity = falls;
        loses = rowsLose;
        moves.clear();
        known = new HashMap<>();
        return true;
    }

    int play(int cell) {
        char[] board = boardBehind(moves.size());
        if (ending(board, moves.size()) != 0 || !isMove(board, cell)) {
            return -1;
        }
        moves.add(cell);
        return moves.size();
    }

    int back() {
        if (moves.isEmpty()) {
            return -1;
        }
        moves.remove(moves.size() - 1);
        return moves.size();
    }

    boolean depth(int n) {
        if (n < 1 || n > 4) {
            return false;
        }
        d = n;
        return true;
    }

    boolean weight(int what, int n) {
        if (what < 0 || what > 5 || n < 0 || n > 99) {
            return false;
        }
        weights[what] = n;
        return true;
    }

    int value(int n, int depth) {
        if (n < 0 || n > moves.size() || depth < 0 || depth > 5) {
            return -2;
        }
        return valueOf(boardBehind(n), n, depth);
    }

    int best(int n, int depth) {
        if (n < 0 || n > moves.size() || depth < 1 || depth > 5 || ending(boardBehind(n), n) != 0) {
            return -1;
        }
        int best = -1;
        for (int cell : movesOn(boardBehind(n))) {
            if (best < 0 || oppositeBehind(n, cell, depth - 1) > oppositeBehind(n, best, depth - 1)) {
                best = cell;
            }
        }
        return best;
    }

    int found(int n, int what) {
        if (n < 1 || n > moves.size() || what < 0 || what > 5) {
            return -1;
        }
        int maker = (n - 1) % 2;
        int made = moves.get(n - 1);
        switch (what) {
            case 0:
                return ending(boardBehind(n), n) == maker + 1 ? 1 : 0;
            case 1:
                return ending(boardBehind(n), n) != 0 ? 0 : winning(boardBehind(n), maker).size();
            case 2:
                List<Integer> safe = new ArrayList<>();
                for (int cell : movesOn(boardBehind(n - 1))) {
                    if (oppositeBehind(n - 1, cell, d - 1) != -1) {
                        safe.add(cell);
                    }
                }
                return movesOn(boardBehind(n - 1)).size() >= 2 && safe.equals(List.of(made)) ? 1 : 0;
            case 3:
                return value(n - 1, d) - oppositeBehind(n - 1, made, d - 1);
            case 4:
                return missed(n).size();
            default:
                return turned(n) ? 1 : 0;
        }
    }

    private boolean turned(int n) {
        if (leader(n) == 2) {
            return false;
        }
        for (int later = n + 1; later <= moves.size(); later++) {
            if (leader(later) != leader(n)) {
                return false;
            }
        }
        return n == 1 || leader(n - 1) != leader(n);
    }

    private List<Integer> missed(int n) {
        List<Integer> winning = winning(boardBehind(n - 1), (n - 1) % 2);
        return winning.contains(moves.get(n - 1)) ? List.of() : winning;
    }

    int leader(int n) {
        if (n < 0 || n > moves.size()) {
            return -1;
        }
        int value = value(n, d);
        return value == 0 ? 2 : value == 1 ? n % 2 : 1 - n % 2;
    }

    int plan(int player) {
        char[] board = boardBehind(moves.size());
        if (player < 0 || player > 1 || ending(board, moves.size()) != 0) {
            return -1;
        }
        for (int stones = 1; stones <= 4; stones++) {
            if (canRow(board, player, stones)) {
                return stones;
            }
        }
        return -1;
    }

    private boolean canRow(char[] board, int player, int stones) {
        if (stones == 0) {
            return hasRow(board, player);
        }
        for (int cell : movesOn(board)) {
            if (canRow(with(board, cell, player), player, stones - 1)) {
                return true;
            }
        }
        return false;
    }

    int words(int n, int level) {
        if (n < 1 || n > moves.size() || level < 0 || level > 1) {
            return -1;
        }
        told = wordsOf(n, level);
        return told.length();
    }

    private String wordsOf(int n, int level) {
        String text = n + "." + name(moves.get(n - 1));
        text += "#".repeat(found(n, 0));
        text += found(n, 1) > 0 ? "+" + found(n, 1) : "";
        text += level == 1 ? "!".repeat(found(n, 2)) + "?".repeat(found(n, 3)) : "";
        text += found(n, 4) > 0 ? "*" + name(missed(n).get(0)) : "";
        return text + (level == 1 ? "=".repeat(found(n, 5)) : "");
    }

    private String name(int cell) {
        return "" + "abcd".charAt(cell % w) + (cell / w + 1);
    }

    int tale(int level) {
        if (level < 0 || level > 1) {
            return -1;
        }
        List<String> all = new ArrayList<>();
        for (int n = 1; n <= moves.size(); n++) {
            all.add(wordsOf(n, level));
        }
        told = String.join(" ", all);
        return told.length();
    }

    int octet(int i) {
        return i >= 0 && i < told.length() ? told.charAt(i) : -1;
    }

    String told() {
        return told;
    }

    int chosen(int room) {
        if (room < 0 || room > 200) {
            return -1;
        }
        List<Integer> offered = new ArrayList<>();
        for (int n = 1; n <= moves.size() && offered.size() < 12; n++) {
            if (worth(n) > 0) {
                offered.add(n);
            }
        }
        int[] lengths = new int[moves.size() + 1];
        int[] worths = new int[moves.size() + 1];
        for (int n : offered) {
            lengths[n] = wordsOf(n, 1).length();
            worths[n] = worth(n);
        }
        List<Integer> best = List.of();
        for (int set = 0; set < 1 << offered.size(); set++) {
            List<Integer> some = new ArrayList<>();
            for (int i = 0; i < offered.size(); i++) {
                if ((set >> i & 1) == 1) {
                    some.add(offered.get(i));
                }
            }
            if (bytes(some, lengths) <= room && isBetter(some, best, worths, lengths)) {
                best = some;
            }
        }
        int bits = 0;
        for (int n : best) {
            bits += 1 << (n - 1);
        }
        return bits;
    }

    private static int bytes(List<Integer> some, int[] lengths) {
        return some.isEmpty() ? 0 : sum(some, lengths) + some.size() - 1;
    }

    private static int sum(List<Integer> some, int[] numbers) {
        return some.stream().mapToInt(n -> numbers[n]).sum();
    }

    private static boolean isBetter(List<Integer> one, List<Integer> two, int[] worths, int[] lengths) {
        int more = sum(one, worths) - sum(two, worths);
        if (more != 0) {
            return more > 0;
        }
        int longer = bytes(one, lengths) - bytes(two, lengths);
        if (longer != 0) {
            return longer < 0;
        }
        for (int i = 0; i < one.size() && i < two.size(); i++) {
            if (!one.get(i).equals(two.get(i))) {
                return one.get(i) < two.get(i);
            }
        }
        return false;
    }

    int worth(int n) {
        if (n < 1 || n > moves.size()) {
            return -1;
        }
        int worth = 0;
        for (int what = 0; what < 6; what++) {
            worth += found(n, what) * weights[what];
        }
        return worth;
    }

    int feed(int... five) {
        if (tape.length() + 20 > 120) {
            return -1;
        }
        byte[] bytes = new byte[20];
        for (int i = 0; i < 20; i++) {
            bytes[i] = (byte) (five[i / 4] >> (24 - i % 4 * 8));
        }
        tape += new String(bytes, StandardCharsets.ISO_8859_1);
        return tape.length();
    }

    int read(int n) {
        if (n < 0 || n > tape.length()) {
            return -1;
        }
        String text = tape.substring(0, n);
        tape = "";
        place = 0;
        int set = 0;
        while (place < n) {
            int blank = text.indexOf(' ', place);
            int end = blank < 0 ? n : blank;
            Matcher words = WORDS.matcher(text.substring(place, end));
            if (!words.matches()
                    || words.group(1) != null && !words.group(1).equals("" + (moves.size() + 1))) {
                break;
            }
            int column = words.group(2).charAt(0) - 'a';
            int row = words.group(3).charAt(0) - '1';
            if (column >= w || row >= h || play(row * w + column) == -1) {
                break;
            }
            set++;
            place = blank < 0 ? n : blank + 1;
        }
        return set;
    }

    int look(int what) {
        int ending = ending(boardBehind(moves.size()), moves.size());
        int[] first = {w, h, k, gravity ? 1 : 0, loses ? 1 : 0, moves.size(), ending,
            ending == 0 ? moves.size() % 2 : -1, d, tape.length(), place};
        if (what >= 0 && what < first.length) {
            return first[what];
        }
        if (what >= 20 && what < 20 + moves.size()) {
            return moves.get(what - 20);
        }
        if (what >= 40 && what < 40 + w * h) {
            return "01.".indexOf(boardBehind(moves.size())[what - 40]);
        }
        return what >= 60 && what < 66 ? weights[what - 60] : -1;
    }

    private int oppositeBehind(int n, int cell, int depth) {
        return -valueOf(with(boardBehind(n), cell, n % 2), n + 1, depth);
    }

    /** Positions are told apart by all of their cells, so that what is known of one never goes stale. */
    private int valueOf(char[] board, int n, int depth) {
        String key = new String(board) + depth;
        Integer seen = known.get(key);
        if (seen == null) {
            seen = searched(board, n, depth);
            known.put(key, seen);
        }
        return seen;
    }

    private int searched(char[] board, int n, int depth) {
        int ending = ending(board, n);
        if (ending != 0) {
            return ending == 3 ? 0 : ending - 1 == n % 2 ? 1 : -1;
        }
        if (depth == 0) {
            return 0;
        }
        int greatest = -9;
        for (int cell : movesOn(board)) {
            greatest = Math.max(greatest, -valueOf(with(board, cell, n % 2), n + 1, depth - 1));
        }
        return greatest;
    }

    private char[] boardBehind(int n) {
        char[] board = new char[w * h];
        Arrays.fill(board, '.');
        for (int i = 0; i < n; i++) {
            board[moves.get(i)] = (char) ('0' + i % 2);
        }
        return board;
    }

    private static char[] with(char[] board, int cell, int player) {
        char[] next = board.clone();
        next[cell] = (char) ('0' + player);
        return next;
    }

    private boolean isMove(char[] board, int cell) {
        if (cell < 0 || cell >= w * h || board[cell] != '.') {
            return false;
        }
        return !gravity || cell < w || board[cell - w] != '.';
    }

    private List<Integer> movesOn(char[] board) {
        List<Integer> cells = new ArrayList<>();
        for (int cell = 0; cell < w * h; cell++) {
            if (isMove(board, cell)) {
                cells.add(cell);
            }
        }
        return cells;
    }

    private List<Integer> winning(char[] board, int player) {
        List<Integer> cells = new ArrayList<>();
        for (int cell : movesOn(board)) {
            if (!loses && hasRow(with(board, cell, player), player)) {
                cells.add(cell);
            }
        }
        return cells;
    }

    /** 0 it goes on, 1 and 2 the player who won, 3 nobody; behind n moves. */
    private int ending(char[] board, int n) {
        for (int player = 0; player < 2; player++) {
            if (hasRow(board, player)) {
                return (loses ? 1 - player : player) + 1;
            }
        }
        return n == w * h ? 3 : 0;
    }

    private boolean hasRow(char[] board, int player) {
        int[][] ways = {{1, 0}, {0, 1}, {1, 1}, {-1, 1}};
        for (int cell = 0; cell < w * h; cell++) {
            for (int[] way : ways) {
                int length = 0;
                int column = cell % w;
                int row = cell / w;
                while (length < k && column >= 0 && column < w && row < h
                        && board[row * w + column] == '0' + player) {
                    length++;
                    column += way[0];
                    row += way[1];
                }
                if (length == k) {
                    return true;
                }
            }
        }
        return false;
    }
}
