import java.util.function.IntUnaryOperator;

/** "An object is used for at most 512 calls": the last of them is answered like the first. */
public final class LastCallsTest extends Checks {
    private static final int CALLS = 512;
    private static final int NONE = -1;

    public static void main(String[] args) {
        about("512 calls of one kind");
        newGames();
        movesSetAndTakenBack();
        movesSetToTheEndAndTakenBack();
        tapesFedAndRead();
        tapesFedOnly();
        settings();
        questions();
        refusals();
        about("calls behind the 512th may answer anything, but they end");
        callsBehindTheLast();
        finish("LastCallsTest");
    }

    /** Call i (from 1 on) makes and judges an answer; it answers 1 if it was as due. */
    private static void allCalls(String name, IntUnaryOperator call) {
        for (int i = 1; i <= CALLS; i++) {
            due(name + ", call " + i, call.applyAsInt(i), 1);
        }
    }

    private static int one(boolean asDue) {
        return asDue ? 1 : 0;
    }

    private static void newGames() {
        GameTeller teller = new GameTeller();
        allCalls("game", i -> one(teller.game(2 + i % 3, 2 + i / 3 % 3, 2, i % 2 == 0, i % 4 < 2)));
        due("the last one's W", teller.look(0), 2 + CALLS % 3);
    }

    private static void movesSetAndTakenBack() {
        GameTeller teller = new GameTeller();
        allCalls("play and back", i -> one(i % 2 == 1 ? teller.play(i % 9) == 1 : teller.back() == 0));
        due("no MOVES", teller.look(5), 0);
    }

    private static void movesSetToTheEndAndTakenBack() {
        GameTeller teller = new GameTeller();
        due("game", teller.game(4, 4, 4, false, false), true);
        for (int i = 2; i <= CALLS; i++) {
            int step = (i - 2) % 32;
            if (step < 16) {
                due("play, call " + i, teller.play(FULL_BOARD[step]), step + 1);
            } else {
                due("back, call " + i, teller.back(), 31 - step);
            }
        }
    }

    private static void tapesFedAndRead() {
        GameTeller teller = new GameTeller();
        // One of three calls reads "a1", one takes it back.
        allCalls("feed, read and back", i -> one(
                i % 3 == 1 ? teller.feed(0x61310000, 0, 0, 0, 0) == 20
                : i % 3 == 2 ? teller.read(2) == 1 : teller.back() == 0));
    }

    private static void tapesFedOnly() {
        GameTeller teller = new GameTeller();
        allCalls("feed", i -> one(teller.feed(i, -i, i, -i, i) == (i <= 6 ? 20 * i : NONE)));
        due("a full tape", teller.look(9), 120);
    }

    private static void settings() {
        GameTeller depths = new GameTeller();
        allCalls("depth", i -> one(depths.depth(i % 6) == (i % 6 >= 1 && i % 6 <= 4)));
        GameTeller weights = new GameTeller();
        allCalls("weight", i -> one(weights.weight(i % 7, i % 102) == (i % 7 < 6 && i % 102 < 100)));
    }

    /** Each kind of question on an object of its own, with an answer that was made when it was new. */
    private static void questions() {
        asked("value", i -> i / 6 % 8 * 10 + i % 6, (t, n) -> t.value(n / 10, n % 10));
        asked("best", i -> i / 5 % 8 * 10 + 1 + i % 5, (t, n) -> t.best(n / 10, n % 10));
        asked("found", i -> (1 + i / 6 % 7) * 10 + i % 6, (t, n) -> t.found(n / 10, n % 10));
        asked("leader", i -> i % 8, GameTeller::leader);
        asked("plan", i -> i % 2, GameTeller::plan);
        asked("words", i -> 1 + i % 7, (t, n) -> t.words(n, 1));
        asked("tale", i -> i % 2, GameTeller::tale);
        asked("octet", i -> i % 50, GameTeller::octet);
        asked("chosen", i -> i % 201, GameTeller::chosen);
        asked("worth", i -> 1 + i % 7, GameTeller::worth);
        asked("look", i -> i % 70, GameTeller::look);
    }

    private interface Question {
        int of(GameTeller teller, int n);
    }

    private static void asked(String name, IntUnaryOperator argument, Question question) {
        GameTeller often = askable();
        for (int i = 11; i <= CALLS; i++) {
            int n = argument.applyAsInt(i);
            due(name + "(" + n + "), call " + i, question.of(often, n), question.of(askable(), n));
        }
    }

    /** Ten calls: seven moves, a tale, and a setting of two. */
    private static GameTeller askable() {
        GameTeller teller = new GameTeller();
        int[] cells = {0, 3, 1, 2, 4, 8, 5};
        for (int cell : cells) {
            teller.play(cell);
        }
        teller.tale(1);
        teller.depth(4);
        teller.weight(1, 5);
        return teller;
    }

    private static void refusals() {
        GameTeller teller = new GameTeller();
        allCalls("refused", i -> one(i % 4 == 0 ? teller.back() == NONE
                : i % 4 == 1 ? teller.play(9) == NONE
                : i % 4 == 2 ? teller.read(1) == NONE : !teller.game(5, 5, 5, true, true)));
        due("a MOVE behind them", teller.play(0), 1);
    }

    private static void callsBehindTheLast() {
        GameTeller teller = new GameTeller();
        for (int i = 0; i < 5000; i++) {
            teller.play(i % 9);
            teller.feed(i, i, i, i, i);
            teller.tale(1);
            teller.chosen(i % 201);
            if (i % 11 == 0) {
                teller.back();
                teller.read(20);
            }
        }
        due("ended", true, true);
    }
}
