import java.util.Arrays;

/** Every game on the small boards, move by move, and every answer there as PlainTeller answers it. */
public final class SmallBoardsTest extends Checks {
    private static final int MOST_CELLS = 6;

    private static int positions;

    private final int w;
    private final int h;
    private final int k;
    private final boolean gravity;
    private final boolean loses;

    private SmallBoardsTest(int w, int h, int k, boolean gravity, boolean loses) {
        this.w = w;
        this.h = h;
        this.k = k;
        this.gravity = gravity;
        this.loses = loses;
    }

    public static void main(String[] args) {
        int most = args.length > 0 ? Integer.parseInt(args[0]) : MOST_CELLS;
        for (int w = 2; w <= 4; w++) {
            for (int h = 2; h <= 4; h++) {
                for (int k = 2; k <= Math.max(w, h) && w * h <= most; k++) {
                    for (int rules = 0; rules < 4; rules++) {
                        new SmallBoardsTest(w, h, k, rules % 2 == 1, rules >= 2).allGames(new int[0]);
                    }
                }
            }
        }
        System.out.println("SmallBoardsTest: " + positions + " positions");
        finish("SmallBoardsTest");
    }

    private void allGames(int[] cells) {
        positions++;
        about(Arrays.toString(cells) + " on " + w + " by " + h + ", rows of " + k
                + (gravity ? ", gravity" : "") + (loses ? ", rows lose" : ""));
        askState(cells);
        for (int d = 1; d <= 4; d++) {
            askFindings(cells, d);
        }
        for (int cell = -1; cell <= w * h; cell++) {
            GameTeller real = real(cells);
            int answer = real.play(cell);
            due("play(" + cell + ")", answer, plain(cells).play(cell));
            if (answer != GameTeller.NONE) {
                int[] longer = Arrays.copyOf(cells, cells.length + 1);
                longer[cells.length] = cell;
                allGames(longer);
            }
        }
    }

    private GameTeller real(int[] cells) {
        GameTeller teller = new GameTeller();
        teller.game(w, h, k, gravity, loses);
        for (int cell : cells) {
            teller.play(cell);
        }
        return teller;
    }

    private PlainTeller plain(int[] cells) {
        PlainTeller teller = new PlainTeller();
        teller.game(w, h, k, gravity, loses);
        for (int cell : cells) {
            teller.play(cell);
        }
        return teller;
    }

    private void askState(int[] cells) {
        GameTeller real = real(cells);
        PlainTeller plain = plain(cells);
        int n = cells.length;
        for (int what = 0; what <= 66; what++) {
            due("look(" + what + ")", real.look(what), plain.look(what));
        }
        for (int d = 0; d <= 5; d++) {
            due("value(" + n + ", " + d + ")", real.value(n, d), plain.value(n, d));
            due("best(" + n + ", " + d + ")", real.best(n, d), plain.best(n, d));
        }
        due("plan(0)", real.plan(0), plain.plan(0));
        due("plan(1)", real.plan(1), plain.plan(1));
    }

    /** Of the last move alone, but for the tale, which tells of all. */
    private void askFindings(int[] cells, int d) {
        GameTeller real = real(cells);
        PlainTeller plain = plain(cells);
        int n = cells.length;
        due("depth(" + d + ")", real.depth(d), plain.depth(d));
        due("leader(" + n + ")", real.leader(n), plain.leader(n));
        for (int what = 0; what <= 5; what++) {
            due("found(" + n + ", " + what + ") by " + d, real.found(n, what), plain.found(n, what));
        }
        due("worth(" + n + ") by " + d, real.worth(n), plain.worth(n));
        for (int level = 0; level <= 1; level++) {
            due("tale(" + level + ") by " + d, real.tale(level), plain.tale(level));
            due("the tale", toldBy(real), plain.told());
        }
        int[] rooms = {5, 8, 12, 13, 20, 30};
        for (int room : rooms) {
            due("chosen(" + room + ") by " + d, real.chosen(room), plain.chosen(room));
        }
    }

    private static String toldBy(GameTeller teller) {
        StringBuilder text = new StringBuilder();
        for (int i = 0; i < 300 && teller.octet(i) != GameTeller.NONE; i++) {
            text.append((char) teller.octet(i));
        }
        return text.toString();
    }
}
