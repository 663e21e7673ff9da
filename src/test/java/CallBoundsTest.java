import java.util.ArrayList;
import java.util.List;
import java.util.function.Supplier;

/** What each call answers where there is none such: promises 1 to 16 and 19 at their bounds. */
public final class CallBoundsTest extends Checks {
    private static final int NONE = -1;
    private static final int NO_VALUE = -2;
    private static final int REFUSED = 0;

    /** Games in which the bounds of a call differ; each is set up anew for each use. */
    private static final List<Supplier<GameTeller>> GAMES = List.of(
            GameTeller::new,
            () -> of(4, 4, 4, true, false),
            () -> threeByThree(4),
            () -> threeByThree(0, 3, 1, 2, 4, 8),
            () -> threeByThree(0, 3, 1, 4, 2),
            () -> of(2, 2, 2, false, true, 0, 1, 2),
            () -> threeByThree(0, 1, 2, 4, 3, 5, 7, 6, 8),
            () -> of(4, 4, 4, false, false, 0, 2, 1, 3, 6, 4, 7, 5, 8, 10, 9, 11, 14, 12, 15),
            Checks::fullBoard);

    public static void main(String[] args) {
        newObjects();
        games();
        plays();
        playsOfEndedGames();
        takingBack();
        depths();
        weights();
        for (Supplier<GameTeller> game : GAMES) {
            values(game);
            bestMoves(game);
            findings(game);
            leaders(game);
            plans(game);
            words(game);
            tales(game);
            octets(game);
            rooms(game);
            worths(game);
            looks(game);
        }
        bestOfEndedGames();
        octetsOfWhatWasToldLast();
        looksAtEndings();
        finish("CallBoundsTest");
    }

    private static int moves(GameTeller teller) {
        return teller.look(5);
    }

    private static int one(boolean met) {
        return met ? 1 : REFUSED;
    }

    private static void newObjects() {
        about("1: W, H, K 3, no GRAVITY, ROWS win; no MOVES");
        GameTeller teller = new GameTeller();
        int[] first = {3, 3, 3, 0, 0, 0, 0, 0, 3, 0, 0};
        for (int what = 0; what < first.length; what++) {
            due("look(" + what + ")", teller.look(what), first[what]);
        }
        for (int cell = 0; cell < 9; cell++) {
            due("a free cell", teller.look(40 + cell), 2);
            due("no move", teller.look(20 + cell), NONE);
        }
        due("a high cell first: no GRAVITY", teller.play(8), 1);
        due("a MOVE to take back", teller.back(), 0);
        due("none more", teller.back(), NONE);
        due("nothing told", teller.octet(0), NONE);
        due("nothing fed", teller.read(1), NONE);
    }

    private static void games() {
        about("2: false: no such W, H, K");
        dueWithin("game(#, 4, 4)", 2, 4, REFUSED, w -> one(new GameTeller().game(w, 4, 4, true, true)));
        dueWithin("game(4, #, 4)", 2, 4, REFUSED, h -> one(new GameTeller().game(4, h, 4, true, true)));
        dueWithin("game(4, 4, #)", 2, 4, REFUSED, k -> one(new GameTeller().game(4, 4, k, true, true)));
        dueWithin("game(2, 2, #)", 2, 2, REFUSED, k -> one(new GameTeller().game(2, 2, k, true, true)));
        dueWithin("game(2, 3, #)", 2, 3, REFUSED, k -> one(new GameTeller().game(2, 3, k, true, true)));
        dueWithin("game(3, 2, #)", 2, 3, REFUSED, k -> one(new GameTeller().game(3, 2, k, true, true)));
        due("all wrong", new GameTeller().game(MIN, MIN, MIN, false, false), false);
        due("all wrong", new GameTeller().game(MAX, MAX, MAX, false, false), false);
        about("2: A new GAME");
        for (Supplier<GameTeller> game : GAMES) {
            GameTeller teller = game.get();
            due("game", teller.game(4, 3, 2, true, true), true);
            due("W, H, K", teller.look(0) * 100 + teller.look(1) * 10 + teller.look(2), 432);
            due("GRAVITY and ROWS lose", teller.look(3) * 10 + teller.look(4), 11);
            due("no MOVES", moves(teller), 0);
            due("it goes on, player 0 first", teller.look(6) * 10 + teller.look(7), 0);
            due("no MOVE to take back", teller.back(), NONE);
            for (int cell = 0; cell < 12; cell++) {
                due("a free cell", teller.look(40 + cell), 2);
            }
        }
        nothingOfTheOldGame();
    }

    /** The same cells are set in both games, and everything was asked of the first. */
    private static void nothingOfTheOldGame() {
        about("2: nothing of the old GAME is known in the new one");
        GameTeller teller = threeByThree(0, 3, 1);
        due("value behind no MOVES, old", teller.value(0, 3), 0);
        due("value, old", teller.value(3, 4), -1);
        due("found, old", teller.found(3, THREAT), 1);
        due("game", teller.game(3, 3, 2, false, true), true);
        due("value behind no MOVES, new", teller.value(0, 4), of(3, 3, 2, false, true).value(0, 4));
        due("no MOVE to ask of", teller.found(1, THREAT), NONE);
        teller.play(0);
        teller.play(8);
        due("found, new", teller.found(2, THREAT) * 10 + teller.found(1, THREAT), 0);
        due("game", teller.game(2, 2, 2, false, false), true);
        due("value behind no MOVES, rows win", teller.value(0, 3), 1);
        due("game", teller.game(2, 2, 2, false, true), true);
        due("value behind no MOVES, rows lose", teller.value(0, 3), -1);
        playAll(teller, 0);
        due("found of the first, rows lose", teller.found(1, THREAT), 0);
        due("game", teller.game(2, 2, 2, false, false), true);
        playAll(teller, 0);
        due("found of the first, rows win", teller.found(1, THREAT), 3);
    }

    private static void plays() {
        about("3: NONE: it is none");
        dueWithin("play(#) of 2 by 2", 0, 3, NONE, cell -> of(2, 2, 2, false, false).play(cell));
        dueWithin("play(#) of 4 by 4", 0, 15, NONE, cell -> of(4, 4, 4, false, false).play(cell));
        dueWithin("play(#) with gravity", 0, 3, NONE, cell -> of(4, 4, 4, true, false).play(cell));
        GameTeller last = of(4, 4, 4, false, false, 0, 2, 1, 3, 6, 4, 7, 5, 8, 10, 9, 11, 14, 12, 15);
        for (int cell = -1; cell <= 16; cell++) {
            if (cell != 13) {
                due("taken: " + cell, last.play(cell), NONE);
            }
        }
        due("the last free one", last.play(13), 16);
    }

    private static void playsOfEndedGames() {
        about("3: NONE: THE GAME has ended");
        int[][] games = {{0, 3, 1, 4, 2}, {0, 3, 1, 4, 8, 5}, {0, 1, 2, 4, 3, 5, 7, 6, 8}};
        for (int[] cells : games) {
            for (int cell = -1; cell <= 9; cell++) {
                due("play(" + cell + ")", threeByThree(cells).play(cell), NONE);
                due("play(" + cell + "), rows lose", of(3, 3, 3, false, true, cells).play(cell), NONE);
            }
        }
        GameTeller again = threeByThree(0, 3, 1, 4, 2);
        again.back();
        due("goes on when the end is taken back", again.play(5), 5);
    }

    private static void takingBack() {
        about("4: how many there are; NONE: there is none");
        for (Supplier<GameTeller> game : GAMES) {
            GameTeller teller = game.get();
            for (int left = moves(teller) - 1; left >= 0; left--) {
                due("back", teller.back(), left);
                due("it goes on", teller.look(6), 0);
                due("whose turn", teller.look(7), left % 2);
                due("no such MOVE", teller.look(20 + left), NONE);
            }
            due("none", teller.back(), NONE);
            due("none again", teller.back(), NONE);
            due("no MOVES", moves(teller), 0);
            due("the first again", teller.play(0), 1);
        }
        about("4: nothing of the MOVE that was taken back is known");
        GameTeller teller = threeByThree(0, 3, 1, 4, 8);
        due("value behind the last", teller.value(5, 1), 1);
        due("missed by the last", teller.found(5, MISSED), 1);
        teller.back();
        due("no such MOVE", teller.found(5, MISSED), NONE);
        due("no such value", teller.value(5, 1), NO_VALUE);
        teller.play(5);
        due("value behind another", teller.value(5, 1), 0);
        due("threat by another", teller.found(5, THREAT), 1);
        teller.back();
        teller.play(2);
        due("value behind the end", teller.value(5, 1), -1);
        due("won by another", teller.found(5, WIN) * 10 + teller.found(5, MISSED), 10);
    }

    private static void depths() {
        about("5: false: no such DEPTH");
        dueWithin("depth(#)", 1, 4, REFUSED, d -> one(new GameTeller().depth(d)));
        GameTeller teller = new GameTeller();
        dueWithin("depth(#) told", 1, 4, REFUSED, d -> teller.depth(d) && teller.look(8) == d ? 1 : REFUSED);
    }

    private static void weights() {
        about("6: false: no such ones");
        dueWithin("weight(#, 50)", 0, 5, REFUSED, what -> one(new GameTeller().weight(what, 50)));
        dueWithin("weight(0, #)", 0, 99, REFUSED, n -> one(new GameTeller().weight(0, n)));
        dueWithin("weight(5, #)", 0, 99, REFUSED, n -> one(new GameTeller().weight(5, n)));
        due("both wrong", new GameTeller().weight(6, 100), false);
        due("both wrong", new GameTeller().weight(MIN, MAX), false);
    }

    private static void values(Supplier<GameTeller> game) {
        about("7: THE VALUE by a DEPTH (0 to 5) behind the first n MOVES (0 to all); -2: no such ones");
        int moves = moves(game.get());
        for (int d = 0; d <= 5; d++) {
            GameTeller teller = game.get();
            int depth = d;
            dueWithin("value(#, " + d + ")", 0, moves, NO_VALUE, n -> teller.value(n, depth));
        }
        GameTeller teller = game.get();
        dueWithin("value(0, #)", 0, 5, NO_VALUE, d -> teller.value(0, d));
        dueWithin("value(all, #)", 0, 5, NO_VALUE, d -> teller.value(moves, d));
        due("both wrong", teller.value(-1, 6), NO_VALUE);
        due("both wrong", teller.value(MIN, MAX), NO_VALUE);
    }

    private static void bestMoves(Supplier<GameTeller> game) {
        about("8: by a DEPTH (1 to 5); NONE: THE GAME had ended, no such ones");
        GameTeller first = game.get();
        int moves = moves(first);
        int last = first.look(6) == 0 ? moves : moves - 1;
        for (int d = 1; d <= 5; d++) {
            GameTeller teller = game.get();
            int depth = d;
            dueWithin("best(#, " + d + ")", 0, last, NONE, n -> teller.best(n, depth));
        }
        dueWithin("best(0, #)", 1, 5, NONE, d -> first.best(0, d));
        GameTeller teller = game.get();
        dueWithin("best(last, #)", 1, 5, NONE, d -> teller.best(last, d));
        due("both wrong", teller.best(-1, 0), NONE);
        due("both wrong", teller.best(MAX, MIN), NONE);
    }

    private static void bestOfEndedGames() {
        about("8: NONE: THE GAME had ended");
        for (int d = 1; d <= 5; d++) {
            due("won", threeByThree(0, 3, 1, 4, 2).best(5, d), NONE);
            due("won: the MOVE before", threeByThree(0, 3, 1, 4, 2).best(4, d), 2);
            due("lost", of(2, 2, 2, false, true, 0, 1, 2).best(3, d), NONE);
            due("full", threeByThree(0, 1, 2, 4, 3, 5, 7, 6, 8).best(9, d), NONE);
            due("full: the MOVE before", threeByThree(0, 1, 2, 4, 3, 5, 7, 6, 8).best(8, d), 8);
            due("the last CELL", fullBoard().best(15, d), 13);
        }
        about("8: the lowest CELL");
        for (int d = 1; d <= 5; d++) {
            due("all like: cell 0", new GameTeller().best(0, d), 0);
            due("cell 0 alone is left", threeByThree(8, 7, 6, 4, 5, 3, 1, 2).best(8, d), 0);
            due("all lose", of(2, 2, 2, false, true, 0, 1).best(2, d), 2);
            // By 1 the row to come is not seen; from 4 on it is seen that its answer loses too.
            due("the only one that does not lose", threeByThree(6, 0, 7).best(3, d), d == 2 || d == 3 ? 8 : 1);
            // 7 and 8 win at once; from a depth of 3 on it is seen that 5 leaves both of them open.
            due("the lowest that wins", threeByThree(0, 3, 4, 2, 1, 6).best(6, d), d < 3 ? 7 : 5);
        }
        due("the lowest that makes no row that loses", of(3, 3, 2, false, true, 1, 8).best(2, 1), 6);
    }

    private static void findings(Supplier<GameTeller> game) {
        about("9: what is FOUND (0 to 5) of MOVE n (from 1 on); NONE: no such ones");
        int moves = moves(game.get());
        for (int what = 0; what <= 5; what++) {
            GameTeller teller = game.get();
            int kind = what;
            dueWithin("found(#, " + what + ")", 1, moves, NONE, n -> teller.found(n, kind));
        }
        GameTeller teller = game.get();
        int highest = moves == 0 ? -1 : 5;
        dueWithin("found(1, #)", 0, highest, NONE, what -> teller.found(1, what));
        dueWithin("found(last, #)", 0, highest, NONE, what -> teller.found(moves, what));
        due("both wrong", teller.found(0, 6), NONE);
        due("both wrong", teller.found(MIN, MIN), NONE);
    }

    private static void leaders(Supplier<GameTeller> game) {
        about("10: 0, 1; 2: nobody; NONE: no such number");
        for (int d = 1; d <= 4; d++) {
            GameTeller teller = game.get();
            teller.depth(d);
            dueWithin("leader(#) by " + d, 0, moves(teller), NONE, teller::leader);
        }
    }

    private static void plans(Supplier<GameTeller> game) {
        about("11: NONE: THE GAME has ended, no such player");
        GameTeller teller = game.get();
        boolean open = teller.look(6) == 0 && moves(teller) < 6;
        boolean ended = teller.look(6) != 0;
        if (open || ended) {
            dueWithin("plan(#)", 0, ended ? -1 : 1, NONE, teller::plan);
        }
    }

    private static void words(Supplier<GameTeller> game) {
        about("12: WORDS of MOVE n by a LEVEL; NONE: no such ones");
        int moves = moves(game.get());
        for (int level = 0; level <= 1; level++) {
            GameTeller teller = game.get();
            int which = level;
            dueWithin("words(#, " + level + ")", 1, moves, NONE, n -> teller.words(n, which));
        }
        GameTeller teller = game.get();
        int highest = moves == 0 ? -1 : 1;
        dueWithin("words(1, #)", 0, highest, NONE, level -> teller.words(1, level));
        dueWithin("words(last, #)", 0, highest, NONE, level -> teller.words(moves, level));
        due("both wrong", teller.words(0, 2), NONE);
        due("both wrong", teller.words(MAX, MAX), NONE);
    }

    private static void tales(Supplier<GameTeller> game) {
        about("13: NONE: no such LEVEL");
        GameTeller teller = game.get();
        dueWithin("tale(#)", 0, 1, NONE, teller::tale);
    }

    private static void octets(Supplier<GameTeller> game) {
        about("14: Byte i; NONE: there is none such");
        GameTeller untold = game.get();
        dueWithin("octet(#), nothing told", 0, -1, NONE, untold::octet);
        GameTeller tale = game.get();
        dueWithin("octet(#) of a tale", 0, tale.tale(1) - 1, NONE, tale::octet);
        for (int n = 1; n <= moves(game.get()); n++) {
            GameTeller words = game.get();
            dueWithin("octet(#) of words", 0, words.words(n, 1) - 1, NONE, words::octet);
        }
    }

    private static void octetsOfWhatWasToldLast() {
        about("14: what words() or tale() told last");
        GameTeller teller = threeByThree(0, 3, 1);
        due("a tale", teller.tale(1), 16);
        due("its last byte", teller.octet(15), '1');
        due("words that are shorter", teller.words(1, 1), 4);
        due("nothing behind them", teller.octet(4), NONE);
        due("their last byte", teller.octet(3), '1');
        due("longer again", teller.words(3, 1), 6);
        due("its last byte", teller.octet(5), '1');
        for (int left = 2; left >= 0; left--) {
            teller.back();
        }
        due("a MOVE that is taken back stays told", teller.octet(0), '3');
        due("a tale of no MOVES", teller.tale(1), 0);
        due("has no byte", teller.octet(0), NONE);
    }

    private static void rooms(Supplier<GameTeller> game) {
        about("15: NONE: no such ROOM");
        GameTeller teller = game.get();
        dueWithin("chosen(#)", 0, 200, NONE, teller::chosen);
        due("in no room", teller.chosen(0), 0);
    }

    private static void worths(Supplier<GameTeller> game) {
        about("16: WORTH of MOVE n; NONE: there is none such");
        GameTeller teller = game.get();
        dueWithin("worth(#)", 1, moves(teller), NONE, teller::worth);
    }

    private static void looks(Supplier<GameTeller> game) {
        about("19: NONE for others");
        GameTeller teller = game.get();
        int moves = moves(teller);
        int cells = teller.look(0) * teller.look(1);
        List<Integer> others = new ArrayList<>(List.of(MIN, MIN + 1, MIN + 20, MIN + 40, MIN + 60, -65536, -256, -1,
                66, 67, 80, 100, 256, 276, 296, 316, 65536, 65596, 1 << 30, MAX - 60, MAX - 40, MAX - 20, MAX - 1, MAX));
        for (int what = 11; what < 20; what++) {
            others.add(what);
        }
        for (int i = moves; i < 20; i++) {
            others.add(20 + i);
        }
        for (int i = cells; i < 20; i++) {
            others.add(40 + i);
        }
        for (int what : others) {
            due("look(" + what + ")", teller.look(what), NONE);
        }
        for (int i = 0; i < moves; i++) {
            int cell = teller.look(20 + i);
            due("look(20 + " + i + ") is a CELL", cell >= 0 && cell < cells, true);
            due("its stone", teller.look(40 + cell), i % 2);
        }
        int free = 0;
        for (int i = 0; i < cells; i++) {
            free += teller.look(40 + i) == 2 ? 1 : 0;
        }
        due("free cells", free, cells - moves);
        for (int i = 0; i < 6; i++) {
            due("look(60 + " + i + ")", teller.look(60 + i), 1);
        }
    }

    private static void looksAtEndings() {
        about("19: 6: 0 it goes on, 1 player 0 won, 2 player 1 won, 3 nobody; 7 whose turn (NONE: it has ended)");
        due("it goes on", new GameTeller().look(6) * 10 + new GameTeller().look(7), 0);
        due("player 1's turn", threeByThree(0).look(6) * 10 + threeByThree(0).look(7), 1);
        due("player 0 won", threeByThree(0, 3, 1, 4, 2).look(6), 1);
        due("player 1 won", threeByThree(0, 3, 1, 4, 8, 5).look(6), 2);
        due("player 1 won by player 0's ROW", of(3, 3, 3, false, true, 0, 3, 1, 4, 2).look(6), 2);
        due("player 0 won by player 1's ROW", of(3, 3, 3, false, true, 0, 3, 1, 4, 8, 5).look(6), 1);
        due("nobody", fullBoard().look(6), 3);
        due("no turn: won", threeByThree(0, 3, 1, 4, 2).look(7), NONE);
        due("no turn: lost", of(3, 3, 3, false, true, 0, 3, 1, 4, 2).look(7), NONE);
        due("no turn: full", fullBoard().look(7), NONE);
        about("19: 20 + i the CELL of MOVE i + 1; 40 + i the player whose stone is on CELL i");
        GameTeller full = fullBoard();
        for (int i = 0; i < 16; i++) {
            due("MOVE " + (i + 1), full.look(20 + i), FULL_BOARD[i]);
            due("CELL " + FULL_BOARD[i], full.look(40 + FULL_BOARD[i]), i % 2);
        }
        due("none behind them", full.look(36) * 10 + full.look(56), -11);
    }
}
