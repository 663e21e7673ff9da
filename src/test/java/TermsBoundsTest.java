import java.util.Arrays;

/** The sentences of the document's 'Terms' that name a boundary, each with a test of its own. */
public final class TermsBoundsTest extends Checks {
    private static final int[][] WAYS = {{1, 0}, {0, 1}, {1, 1}, {-1, 1}};

    public static void main(String[] args) {
        columnsAndRows();
        lengthOfRows();
        cellsByNumbers();
        everySetOfStonesThatMayBeRow();
        rowsOfOnePlayer();
        turnsFromFirstToLast();
        freeCells();
        lowestFreeOfColumn();
        endByRow();
        endByFullBoard();
        lastCellMakesRow();
        valueOfEndedGame();
        valueByDepthZero();
        valueByDepthLess();
        toldDepth();
        threatOnlyIfGameGoesOn();
        threatsOfTwoDigits();
        forcedOfTwoMovesAtLeast();
        forcedAsTheOnlyOne();
        slipsFromNoneToTwo();
        missedIfNoneOfThem();
        turnBehindAllLater();
        turnOfFirstMove();
        turnNotBefore();
        plansOfOneToFour();
        plansByMoves();
        plansOfEndedGame();
        numbersInWords();
        signsInWords();
        talesOfNoneOneAndAll();
        roomToTheByte();
        firstTwelveWithWorth();
        likeOnesByBytes();
        likeOnesByEarlierMove();
        weightsToTheirEnds();
        memoryOfEachTeller();
        finish("TermsBoundsTest");
    }

    private static void columnsAndRows() {
        about("W columns (2 to 4), H rows (2 to 4)");
        dueWithin("game(#, 3, 2)", 2, 4, 0, w -> new GameTeller().game(w, 3, 2, false, false) ? 1 : 0);
        dueWithin("game(3, #, 2)", 2, 4, 0, h -> new GameTeller().game(3, h, 2, false, false) ? 1 : 0);
        dueWithin("game(#, #, 2)", 2, 4, 0, n -> new GameTeller().game(n, n, 2, true, true) ? 1 : 0);
        for (int w = 2; w <= 4; w++) {
            for (int h = 2; h <= 4; h++) {
                GameTeller teller = of(w, h, 2, false, false);
                due("W and H", teller.look(0) * 10 + teller.look(1), w * 10 + h);
            }
        }
    }

    private static void lengthOfRows() {
        about("K (2 to 4, not above the greater of W and H)");
        for (int w = 2; w <= 4; w++) {
            for (int h = 2; h <= 4; h++) {
                int width = w;
                int height = h;
                dueWithin("game(" + w + ", " + h + ", #)", 2, Math.max(w, h), 0,
                        k -> new GameTeller().game(width, height, k, false, false) ? 1 : 0);
            }
        }
        GameTeller teller = of(2, 4, 4, false, false);
        due("as long as the greater is fine", teller.look(2), 4);
    }

    private static void cellsByNumbers() {
        about("CELLS by numbers: W times the row and the column, from 0 on (row 0 is the lowest)");
        for (int w = 2; w <= 4; w++) {
            for (int h = 2; h <= 4; h++) {
                int width = w;
                int height = h;
                dueWithin("play(#) of " + w + " by " + h, 0, w * h - 1, -1,
                        cell -> of(width, height, 2, false, false).play(cell));
                for (int cell = 0; cell < w * h; cell++) {
                    GameTeller teller = of(w, h, 2, false, true, cell);
                    due("the name of " + cell, wordsOf(teller, 1, 0), "1." + nameOf(cell, w));
                    due("the stone on " + cell, teller.look(40 + cell), 0);
                }
            }
        }
        GameTeller falling = of(3, 2, 3, true, false);
        due("the highest row does not lie on the ground", falling.play(3), -1);
        due("row 0 does", falling.play(0), 1);
    }

    private static void everySetOfStonesThatMayBeRow() {
        about("K stones of one player in a line, straight or slant, side by side, are a ROW");
        for (int w = 2; w <= 4; w++) {
            for (int h = 2; h <= 4; h++) {
                for (int k = 2; k <= Math.max(w, h); k++) {
                    for (int set = 0; set < 1 << w * h; set++) {
                        if (Integer.bitCount(set) == k) {
                            setStones(w, h, k, set);
                        }
                    }
                }
            }
        }
    }

    /** Each of the K stones is once the last that is set: a row is one whichever of its cells is filled last. */
    private static void setStones(int w, int h, int k, int set) {
        int[] cells = new int[k];
        int left = set;
        for (int i = 0; i < k; i++) {
            cells[i] = Integer.numberOfTrailingZeros(left);
            left &= left - 1;
        }
        for (int last = 0; last < k; last++) {
            setStones(w, h, set, cells, last);
        }
    }

    /** Player 0 sets K stones, player 1 one less on the lowest cells that are left, which is too few for a row. */
    private static void setStones(int w, int h, int set, int[] cells, int last) {
        int k = cells.length;
        String stones = Arrays.toString(cells) + " on " + w + " by " + h + ", " + cells[last] + " last";
        boolean row = isRow(w, h, k, set);
        GameTeller teller = new GameTeller();
        teller.game(w, h, k, false, false);
        int others = ~set;
        for (int i = 1; i < k; i++) {
            teller.play(cells[(last + i) % k]);
            teller.play(Integer.numberOfTrailingZeros(others));
            others &= others - 1;
        }
        due("it goes on: " + stones, teller.look(6), 0);
        if (row) {
            due("one is missing: " + stones, teller.plan(0), 1);
            due("it wins by 1: " + stones, teller.value(2 * k - 2, 1), 1);
        }
        due("the last: " + stones, teller.play(cells[last]), 2 * k - 1);
        due("a row: " + stones, teller.look(6), row ? 1 : 0);
    }

    private static boolean isRow(int w, int h, int k, int set) {
        int first = Integer.numberOfTrailingZeros(set);
        for (int[] way : WAYS) {
            int column = first % w;
            int row = first / w;
            int length = 0;
            while (column >= 0 && column < w && row < h && (set >> (row * w + column) & 1) == 1) {
                length++;
                column += way[0];
                row += way[1];
            }
            if (length == k) {
                return true;
            }
        }
        return false;
    }

    private static void rowsOfOnePlayer() {
        about("stones of one player");
        due("two of three are the other's", threeByThree(0, 1, 2).look(6), 0);
        due("one of three is the other's", threeByThree(0, 1, 2, 3, 4, 5).look(6), 0);
        due("player 1's own", threeByThree(0, 3, 1, 4, 8, 5).look(6), 2);
        due("longer than K is a ROW as well", of(4, 2, 3, false, false, 0, 4, 1, 5, 3, 7, 2).look(6), 1);
    }

    private static void turnsFromFirstToLast() {
        about("Players 0 and 1 set a stone by turns, 0 first");
        GameTeller teller = of(4, 4, 4, false, false);
        for (int i = 0; i < 16; i++) {
            due("whose turn", teller.look(7), i % 2);
            teller.play(FULL_BOARD[i]);
            due("whose stone", teller.look(40 + FULL_BOARD[i]), i % 2);
        }
        due("nobody's", teller.look(7), -1);
    }

    private static void freeCells() {
        about("A MOVE is a free CELL");
        GameTeller teller = of(4, 4, 4, false, false);
        for (int i = 0; i < 16; i++) {
            due("a free one", teller.play(FULL_BOARD[i]), i + 1);
            for (int j = 0; j <= i; j++) {
                due("a taken one", teller.play(FULL_BOARD[j]), -1);
            }
        }
    }

    private static void lowestFreeOfColumn() {
        about("with GRAVITY only the lowest free one of a column");
        int[] cells = {0, 4, 8, 12, 1, 2, 3, 5, 6, 7, 9, 10, 11, 13, 14, 15};
        for (int moves = 0; moves <= cells.length; moves++) {
            int[] some = Arrays.copyOf(cells, moves);
            for (int cell = 0; cell < 16; cell++) {
                GameTeller teller = of(4, 4, 4, true, false, some);
                boolean lowest = teller.look(40 + cell) == 2 && (cell < 4 || teller.look(40 + cell - 4) != 2);
                boolean goesOn = teller.look(6) == 0;
                due("cell " + cell + " behind " + moves, teller.play(cell), lowest && goesOn ? moves + 1 : -1);
            }
        }
        GameTeller full = of(2, 2, 2, true, true, 0);
        due("above it", full.play(2), 2);
        due("above a full column", full.play(4), -1);
        due("the other column", full.play(1), 3);
    }

    private static void endByRow() {
        about("THE GAME ends by a MOVE that makes a ROW (who made it WINS; if ROWS lose: LOSES)");
        GameTeller won = threeByThree(0, 3, 1, 4, 2);
        due("player 0 won", won.look(6), 1);
        GameTeller lost = of(3, 3, 3, false, true, 0, 3, 1, 4, 2);
        due("player 0 lost", lost.look(6), 2);
        due("player 1 won", threeByThree(0, 3, 1, 4, 8, 5).look(6), 2);
        due("player 1 lost", of(3, 3, 3, false, true, 0, 3, 1, 4, 8, 5).look(6), 1);
        for (int cell = 5; cell < 9; cell++) {
            due("free, but no MOVE", won.play(cell), -1);
            due("free, but no MOVE", lost.play(cell), -1);
        }
        due("nobody's turn", won.look(7) + lost.look(7), -2);
    }

    private static void endByFullBoard() {
        about("or when no CELL is free (nobody wins)");
        GameTeller teller = threeByThree(0, 1, 2, 4, 3, 5, 7, 6);
        due("one is free", teller.look(6) * 10 + teller.look(7), 0);
        due("the last one", teller.play(8), 9);
        due("nobody", teller.look(6), 3);
        due("of the largest board", fullBoard().look(6), 3);
        GameTeller falling = of(2, 4, 4, true, false, 0, 1, 3, 2, 4, 5, 7);
        due("gravity: one is free", falling.look(6), 0);
        due("gravity: the last one", falling.play(6), 8);
        due("gravity: nobody", falling.look(6), 3);
        GameTeller losing = of(3, 3, 3, false, true, 0, 1, 2, 4, 3, 5, 7, 6, 8);
        due("rows lose: nobody", losing.look(6), 3);
    }

    private static void lastCellMakesRow() {
        about("a ROW by the last free CELL");
        int[] cells = {0, 1, 2, 3, 5, 4, 7, 6, 8};
        due("wins", threeByThree(cells).look(6), 1);
        due("loses", of(3, 3, 3, false, true, cells).look(6), 2);
        due("is found", threeByThree(cells).found(9, WIN), 1);
        due("is valued", threeByThree(cells).value(9, 0), -1);
        due("is seen ahead", threeByThree(cells).value(8, 1), 1);
        due("is seen ahead, if it loses", of(3, 3, 3, false, true, cells).value(8, 1), -1);
        about("a ROW by the sixteenth MOVE");
        int[] sixteen = {9, 7, 6, 2, 13, 15, 0, 12, 14, 10, 8, 11, 4, 5, 1, 3};
        GameTeller won = of(4, 4, 4, false, false, sixteen);
        due("player 1 won", won.look(6), 2);
        due("is found", won.found(16, WIN), 1);
        due("is told", wordsOf(won, 16, 1), "16.d1#");
        due("has worth", won.worth(16), 1);
        due("leads", won.leader(16), 1);
        for (int what = 0; what < 6; what++) {
            won.weight(what, what == WIN ? 99 : 0);
        }
        due("is chosen to the byte", won.chosen(6), 1 << 15);
        due("is not chosen in a byte less", won.chosen(5), 0);
        GameTeller lost = of(4, 4, 4, false, true, sixteen);
        due("player 1 lost", lost.look(6), 1);
        due("is no WIN", lost.found(16, WIN), 0);
        due("is valued", lost.value(16, 0) * 10 + lost.leader(16), 10);
    }

    private static void valueOfEndedGame() {
        about("if THE GAME has ended: 1 if that player won, -1 if lost, 0 if nobody");
        GameTeller lost = threeByThree(0, 3, 1, 4, 2);
        GameTeller lostByZero = threeByThree(0, 3, 1, 4, 8, 5);
        GameTeller won = of(3, 3, 3, false, true, 0, 3, 1, 4, 2);
        GameTeller wonByZero = of(3, 3, 3, false, true, 0, 3, 1, 4, 8, 5);
        GameTeller nobody = fullBoard();
        for (int d = 0; d <= 5; d++) {
            due("lost by player 1, depth " + d, lost.value(5, d), -1);
            due("lost by player 0, depth " + d, lostByZero.value(6, d), -1);
            due("won by player 1, depth " + d, won.value(5, d), 1);
            due("won by player 0, depth " + d, wonByZero.value(6, d), 1);
            due("nobody, depth " + d, nobody.value(16, d), 0);
        }
    }

    private static void valueByDepthZero() {
        about("else with DEPTH 0: 0");
        GameTeller teller = threeByThree(0, 3, 1, 4, 2);
        for (int n = 0; n < 5; n++) {
            due("not ended behind " + n, teller.value(n, 0), 0);
        }
        GameTeller losing = of(2, 2, 2, false, true, 0, 1);
        due("every MOVE loses, but DEPTH 0", losing.value(2, 0), 0);
        due("every MOVE loses, by DEPTH 1", losing.value(2, 1), -1);
    }

    private static void valueByDepthLess() {
        about("the greatest of the opposite of THE VALUES, by a DEPTH less");
        GameTeller teller = threeByThree(0, 3, 1, 2, 4, 8);
        int[] seenFrom = {4, 3, 2, 1};
        int[] values = {-1, 1, -1, 1};
        for (int n = 3; n <= 6; n++) {
            for (int d = 0; d <= 5; d++) {
                due("value(" + n + ", " + d + ")", teller.value(n, d), d >= seenFrom[n - 3] ? values[n - 3] : 0);
            }
        }
        GameTeller large = of(4, 4, 3, false, false);
        due("the deepest tells a win", large.value(0, 5), 1);
        due("one less does not", large.value(0, 4), 0);
    }

    private static void toldDepth() {
        about("the DEPTH that is told (1 to 4; 3 at first)");
        due("at first", new GameTeller().look(8), 3);
        dueWithin("depth(#)", 1, 4, 0, d -> new GameTeller().depth(d) ? 1 : 0);
        GameTeller teller = threeByThree(0, 3, 1, 8);
        int[] slips = {0, 1, 1, 0};
        for (int d = 1; d <= 4; d++) {
            due("depth(" + d + ")", teller.depth(d), true);
            due("the slip that lets a row be made, by " + d, teller.found(4, SLIP), slips[d - 1]);
        }
        // From the middle, every other cell makes a row of 2, which loses with the third move.
        GameTeller first = of(3, 3, 2, false, true, 4);
        int[] firstSlips = {0, 0, 1, 1};
        for (int d = 4; d >= 1; d--) {
            due("depth(" + d + ")", first.depth(d), true);
            due("the slip of the first MOVE, by " + d, first.found(1, SLIP), firstSlips[d - 1]);
        }
    }

    private static void threatOnlyIfGameGoesOn() {
        about("THREAT: if THE GAME goes on");
        GameTeller won = threeByThree(0, 3, 1, 5, 4, 6, 2);
        due("two more rows might be made", won.found(5, THREAT), 3);
        due("but it has ended", won.found(7, THREAT), 0);
        due("by a WIN", won.found(7, WIN), 1);
        due("no CELL is free", fullBoard().found(16, THREAT), 0);
        GameTeller losing = of(3, 3, 2, false, true, 4, 0);
        due("ROWS that lose threaten nobody", losing.found(1, THREAT) + losing.found(2, THREAT), 0);
    }

    private static void threatsOfTwoDigits() {
        about("THREAT: with how many CELLS");
        GameTeller none = of(2, 2, 2, false, false);
        due("no MOVE", none.found(1, THREAT), -1);
        due("every cell that is left", of(2, 2, 2, false, false, 0).found(1, THREAT), 3);
        GameTeller nine = of(4, 4, 2, false, false, 5, 0, 15);
        due("nine", nine.found(3, THREAT), 9);
        due("one digit", wordsOf(nine, 3, 0), "3.d4+9*b1");
        GameTeller ten = of(4, 4, 2, false, false, 5, 12, 15);
        due("ten", ten.found(3, THREAT), 10);
        due("two digits", wordsOf(ten, 3, 0), "3.d4+10*a1");
        due("in the air is none", of(3, 3, 3, true, false, 0, 1, 4, 2).found(3, THREAT), 0);
        due("where the first stone lies is none", threeByThree(2, 0, 4, 1).found(4, THREAT), 0);
        due("where the second stone lies is none", threeByThree(0, 2, 1).found(3, THREAT), 0);
    }

    private static void forcedOfTwoMovesAtLeast() {
        about("FORCED: if there were two MOVES at least");
        GameTeller falling = of(2, 3, 3, true, false, 0, 1, 2, 4, 3, 5);
        due("two MOVES, one of which loses", falling.found(4, FORCED), 1);
        due("one MOVE", falling.found(5, FORCED), 0);
        due("one MOVE, the last", falling.found(6, FORCED), 0);
        for (int d = 1; d <= 4; d++) {
            falling.depth(d);
            due("one MOVE by " + d, falling.found(6, FORCED), 0);
            due("two MOVES by " + d, falling.found(4, FORCED), d == 1 ? 0 : 1);
        }
        due("the last of a full board", threeByThree(0, 1, 2, 4, 3, 5, 7, 6, 8).found(9, FORCED), 0);
    }

    private static void forcedAsTheOnlyOne() {
        about("FORCED: it is the only one behind which the opposite of THE VALUE by D - 1 is not -1");
        due("the only answer", threeByThree(0, 3, 1, 2).found(4, FORCED), 1);
        due("not the answer", threeByThree(0, 3, 1, 8).found(4, FORCED), 0);
        due("all lose, it too", threeByThree(0, 3, 1, 2, 4, 8).found(6, FORCED), 0);
        due("none loses", threeByThree(0).found(1, FORCED), 0);
        GameTeller all = threeByThree(0, 3, 1, 2, 4, 8);
        int[] depths = {1, 2, 3, 4};
        for (int d : depths) {
            all.depth(d);
            due("all lose, it too, by " + d, all.found(6, FORCED), 0);
        }
        GameTeller two = threeByThree(8, 7, 6, 4, 5, 3, 1, 2);
        int[] forcedBy = {0, 1, 1, 1};
        for (int d : depths) {
            two.depth(d);
            due("cell 0 was the only other one, by " + d, two.found(8, FORCED), forcedBy[d - 1]);
        }
        GameTeller later = threeByThree(0, 3, 1, 2, 4, 8, 7);
        due("what came later is not asked", later.found(4, FORCED), 1);
        due("nor here, where two are not lost", threeByThree(0, 3, 1, 2, 6, 4).found(5, FORCED), 0);
        GameTeller losing = of(2, 3, 2, false, true, 0, 5, 4);
        losing.depth(1);
        due("by D - 1 of 0 a game that ends is seen", losing.found(3, FORCED), 1);
        GameTeller winning = threeByThree(0, 5, 4, 8, 6, 2);
        due("a WIN, while the other has two threats", winning.found(6, FORCED), 1);
    }

    private static void slipsFromNoneToTwo() {
        about("SLIP: by how much THE VALUE is greater");
        due("none", threeByThree(0, 3, 1, 2).found(4, SLIP), 0);
        due("from nothing to a loss", threeByThree(0, 3, 1, 8).found(4, SLIP), 1);
        due("from a win to nothing", threeByThree(0, 3, 1, 2, 4, 8, 5).found(7, SLIP), 1);
        due("from a win to a loss", threeByThree(0, 3, 1, 4, 6).found(5, SLIP), 2);
        due("where all lose", threeByThree(0, 3, 1, 2, 4, 8).found(6, SLIP), 0);
        GameTeller first = threeByThree(0);
        first.depth(1);
        due("the first by 1", first.found(1, SLIP), 0);
    }

    private static void missedIfNoneOfThem() {
        about("MISSED: how many MOVES there were, if it is none of them");
        due("none there", threeByThree(0, 3, 1).found(3, MISSED), 0);
        due("one", threeByThree(0, 3, 1, 4, 6).found(5, MISSED), 1);
        due("two", threeByThree(0, 3, 4, 2, 1, 6, 5).found(7, MISSED), 2);
        due("the first of two was made", threeByThree(0, 3, 4, 2, 1, 6, 7).found(7, MISSED), 0);
        due("the second of two was made", threeByThree(0, 3, 4, 2, 1, 6, 8).found(7, MISSED), 0);
        due("eight", of(4, 4, 2, false, false, 5, 12, 15).found(3, MISSED), 8);
        due("rows that lose", of(3, 3, 2, false, true, 4, 0, 8).found(3, MISSED), 0);
        due("in the air", of(3, 3, 3, true, false, 0, 1, 4, 2, 3).found(5, MISSED), 0);
    }

    private static void turnBehindAllLater() {
        about("TURN: behind it THE LEADER is a player, behind all MOVES later the same one");
        GameTeller teller = threeByThree(0, 3, 1, 4, 6, 5);
        int[] leaders = {2, 2, 2, 2, 0, 1, 1};
        for (int n = 0; n <= 6; n++) {
            due("leader(" + n + ")", teller.leader(n), leaders[n]);
        }
        for (int n = 1; n <= 6; n++) {
            due("TURN of " + n, teller.found(n, TURN), n == 5 ? 1 : 0);
        }
        teller.back();
        due("of the last", teller.found(5, TURN), 1);
        teller.back();
        due("of the last then", teller.found(4, TURN), 1);
        teller.back();
        due("nobody leads", teller.found(3, TURN) + teller.found(2, TURN) + teller.found(1, TURN), 0);
        GameTeller lost = threeByThree(0, 3, 1, 2, 4, 8, 5);
        due("led, but not to the last", lost.leader(6) * 10 + lost.leader(7), 2);
        due("no TURN then", lost.found(4, TURN), 0);
    }

    private static void turnOfFirstMove() {
        about("TURN: behind the one before it (if there is one)");
        GameTeller losing = of(2, 2, 2, false, true, 0);
        due("the same one led at the start", losing.leader(0) * 10 + losing.leader(1), 11);
        due("but there was no MOVE", losing.found(1, TURN), 1);
        losing.play(1);
        due("the first still", losing.found(1, TURN), 1);
        due("not the second", losing.found(2, TURN), 0);
    }

    private static void turnNotBefore() {
        about("TURN: and behind the one before it not");
        GameTeller fromNobody = threeByThree(0, 3, 1, 2, 4);
        due("nobody led before", fromNobody.leader(3) * 10 + fromNobody.leader(4), 20);
        due("turned", fromNobody.found(4, TURN), 1);
        due("led before", fromNobody.found(5, TURN), 0);
        GameTeller fromOther = threeByThree(0, 3, 1, 4, 6);
        due("the other one led before", fromOther.leader(4) * 10 + fromOther.leader(5), 1);
        due("turned", fromOther.found(5, TURN), 1);
    }

    private static void plansOfOneToFour() {
        about("THE PLAN: the fewest stones (1 to 4)");
        due("four", of(4, 4, 4, false, false).plan(0), 4);
        due("three", of(4, 4, 4, false, false, 0).plan(0), 3);
        due("two", of(4, 4, 4, false, false, 0, 4, 1).plan(0), 2);
        due("one", of(4, 4, 4, false, false, 0, 4, 1, 5, 2).plan(0), 1);
        due("five are too many: player 1", of(4, 2, 3, true, false, 1).plan(1), -1);
        due("five are too many: player 0", of(4, 2, 4, true, false, 0, 3, 4).plan(0), -1);
        due("four with some under them", of(4, 2, 3, true, false, 2, 1).plan(0), 4);
        due("four with some under them", of(4, 2, 3, true, false, 2, 1).plan(1), 4);
        due("no line is left", threeByThree(0, 1, 2, 4, 3, 5, 7, 6).plan(0), -1);
        due("no line is left", threeByThree(0, 1, 2, 4, 3, 5, 7, 6).plan(1), -1);
        due("the shortest board", of(2, 2, 2, false, false).plan(1), 2);
    }

    private static void plansByMoves() {
        about("THE PLAN: which that one alone would set, one after another as MOVES");
        due("not its turn", of(3, 3, 3, false, false, 0, 3, 1).plan(0), 1);
        due("its turn", of(3, 3, 3, false, false, 0, 3, 1, 4).plan(0), 1);
        due("a free one under it comes first", of(3, 3, 3, true, false, 0, 1, 4, 2).plan(0), 2);
        due("nothing comes first without gravity", of(3, 3, 3, false, false, 0, 1, 4, 2).plan(0), 1);
        due("whether ROWS lose is not asked", of(3, 3, 3, false, true, 0, 3, 1).plan(0), 1);
    }

    private static void plansOfEndedGame() {
        about("THE PLAN: THE GAME not having ended");
        GameTeller won = threeByThree(0, 3, 1, 4, 2);
        due("who won", won.plan(0), -1);
        due("who lost, though one stone is missing", won.plan(1), -1);
        won.back();
        due("taken back", won.plan(0) * 10 + won.plan(1), 11);
        GameTeller full = fullBoard();
        due("a full board", full.plan(0) + full.plan(1), -2);
    }

    private static void numbersInWords() {
        about("WORDS: its number (from 1 on), the column's letter (a to d) and the row's digit (1 to 4)");
        GameTeller teller = fullBoard();
        for (int n = 1; n <= 16; n++) {
            String words = wordsOf(teller, n, 0);
            String head = n + "." + nameOf(FULL_BOARD[n - 1], 4);
            due("words of " + n + ": " + words, words.startsWith(head), true);
            due("signs of " + n + ": " + words, words.substring(head.length()).matches("(\\+[0-9]+)?(\\*[a-d][1-4])?"),
                    true);
        }
        due("first and last letters and digits", wordsOf(of(4, 4, 4, false, false, 0, 3, 12, 15), 4, 0), "4.d4");
    }

    private static void signsInWords() {
        about("WORDS: signs by what is FOUND; by LEVEL 0 only # + *, by LEVEL 1 all");
        due("none", wordsOf(threeByThree(0), 1, 1), "1.a1");
        due("all that go together, 1", wordsOf(threeByThree(0, 3, 1, 4, 6), 5, 1), "5.a3+1??*c1=");
        due("all that go together, 0", wordsOf(threeByThree(0, 3, 1, 4, 6), 5, 0), "5.a3+1*c1");
        GameTeller winning = threeByThree(0, 5, 4, 8, 6, 2);
        due("a WIN that was the only way, 1", wordsOf(winning, 6, 1), "6.c1#!");
        due("a WIN that was the only way, 0", wordsOf(winning, 6, 0), "6.c1#");
        due("the lowest CELL of two", wordsOf(threeByThree(0, 3, 4, 2, 1, 6, 5), 7, 0), "7.c2+2*b3");
    }

    private static void talesOfNoneOneAndAll() {
        about("THE TALE: WORDS of all MOVES, a blank between two");
        due("no MOVE", taleOf(new GameTeller(), 0) + taleOf(new GameTeller(), 1), "");
        due("one MOVE", taleOf(threeByThree(4), 1), "1.b2");
        due("two MOVES", taleOf(threeByThree(4, 0), 1), "1.b2 2.a1");
        for (int level = 0; level <= 1; level++) {
            StringBuilder all = new StringBuilder();
            for (int n = 1; n <= 16; n++) {
                all.append(n > 1 ? " " : "").append(wordsOf(fullBoard(), n, level));
            }
            due("sixteen MOVES, level " + level, taleOf(fullBoard(), level), all.toString());
        }
    }

    /** Moves 3 to 7 have worths of 1 2 2 1 1 in 6 6 6 6 5 bytes. */
    private static GameTeller fiveWithWorth() {
        return threeByThree(0, 3, 1, 2, 4, 8, 7);
    }

    private static void roomToTheByte() {
        about("CHOSEN for a ROOM (0 to 200): no more bytes than ROOM, with a blank between two");
        GameTeller teller = fiveWithWorth();
        dueWithin("chosen(#)", 0, 200, -1, teller::chosen);
        due("no room", fiveWithWorth().chosen(0), 0);
        due("a byte too few for one", fiveWithWorth().chosen(4), 0);
        due("to the byte for one", fiveWithWorth().chosen(5), 1 << 6);
        due("two without the blank", fiveWithWorth().chosen(12), 1 << 3 | 1 << 6);
        due("two with the blank", fiveWithWorth().chosen(13), 1 << 3 | 1 << 4);
        due("a byte too few for all", fiveWithWorth().chosen(32), 0b1011100);
        due("to the byte for all", fiveWithWorth().chosen(33), 0b1111100);
        due("the largest room", fiveWithWorth().chosen(200), 0b1111100);
        due("no MOVES", new GameTeller().chosen(0) + new GameTeller().chosen(200), 0);
        due("the first MOVE", of(2, 2, 2, false, false, 0).chosen(200), 1);
    }

    private static void firstTwelveWithWorth() {
        about("of the first 12 that have a WORTH above 0");
        int[] cells = {4, 2, 5, 8, 13, 1, 0, 7, 3, 9, 15, 14, 12, 6, 11};
        GameTeller teller = of(4, 4, 3, false, false, cells);
        for (int n = 1; n <= 15; n++) {
            due("worth of " + n, teller.worth(n) > 0, n >= 3);
        }
        due("thirteen: not the last", teller.chosen(200), 0b011111111111100);
        teller.back();
        due("twelve", teller.chosen(200), 0b011111111111100);
        teller.back();
        due("eleven", teller.chosen(200), 0b001111111111100);
        GameTeller dear = of(4, 4, 3, false, false, cells);
        dear.weight(MISSED, 99);
        due("the thirteenth would be worth most", dear.worth(15) > 99, true);
        due("and is not asked, however small the room", dear.chosen(16) >> 14, 0);
        for (int what = 0; what < 6; what++) {
            dear.weight(what, what == MISSED ? 1 : 0);
        }
        due("those without WORTH don't count", dear.chosen(200) >> 14, 1);
        for (int what = 0; what < 6; what++) {
            dear.weight(what, 0);
        }
        due("none has WORTH", dear.chosen(200), 0);
    }

    private static void likeOnesByBytes() {
        about("the greatest WORTH in all; of like ones the fewest bytes");
        GameTeller teller = fiveWithWorth();
        teller.weight(WIN, 2);
        teller.weight(FORCED, 0);
        teller.weight(TURN, 0);
        due("move 5 is worth as much as move 7", teller.worth(5) * 10 + teller.worth(7), 22);
        due("and longer", teller.words(5, 1) * 10 + teller.words(7, 1), 65);
        due("the shorter, though later", teller.chosen(6), 1 << 6);
        teller.weight(WIN, 1);
        due("the dearer, though longer", teller.chosen(6), 1 << 4);
    }

    private static void likeOnesByEarlierMove() {
        about("of like ones that which has the earlier MOVE, in the first in which two differ");
        due("one of two", fiveWithWorth().chosen(6), 1 << 3);
        GameTeller teller = threeByThree(4, 1, 5, 0, 8, 3, 7);
        int[] weights = {2, 1, 2, 1, 3, 1};
        for (int what = 0; what < 6; what++) {
            teller.weight(what, weights[what]);
        }
        int[] worths = {0, 0, 1, 2, 7, 7, 8};
        int[] bytes = {4, 4, 6, 7, 11, 11, 12};
        for (int n = 1; n <= 7; n++) {
            due("worth and bytes of " + n, teller.worth(n) * 100 + teller.words(n, 1), worths[n - 1] * 100 + bytes[n - 1]);
        }
        due("3 5 7, not 3 6 7 nor 4 5 6", teller.chosen(31), 0b1010100);
    }

    private static void weightsToTheirEnds() {
        about("WEIGHTS (0 to 99 each; 1 at first)");
        for (int what = 0; what < 6; what++) {
            int kind = what;
            due("at first", new GameTeller().look(60 + what), 1);
            dueWithin("weight(" + what + ", #)", 0, 99, 0, n -> new GameTeller().weight(kind, n) ? 1 : 0);
            GameTeller teller = threeByThree(0, 3, 1, 4, 6);
            teller.weight(what, 99);
            due("look at 99", teller.look(60 + what), 99);
            due("worth by 99", teller.worth(5), 5 + 98 * teller.found(5, what));
            teller.weight(what, 0);
            due("look at 0", teller.look(60 + what), 0);
            due("worth by 0", teller.worth(5), 5 - teller.found(5, what));
        }
        GameTeller heaviest = of(4, 4, 2, false, false, 5, 12, 15);
        for (int what = 0; what < 6; what++) {
            heaviest.weight(what, 99);
        }
        int sum = 0;
        for (int what = 0; what < 6; what++) {
            sum += heaviest.found(3, what);
        }
        due("all at their heaviest", heaviest.worth(3), 99 * sum);
    }

    private static void memoryOfEachTeller() {
        about("All memory is the teller's own");
        GameTeller one = new GameTeller();
        GameTeller two = threeByThree(0, 3, 1, 4, 6);
        two.depth(1);
        two.weight(0, 9);
        two.tale(1);
        two.feed(0x61310000, 0, 0, 0, 0);
        due("its game", one.look(5) * 10 + one.look(40), 2);
        due("its depth and weights", one.look(8) * 10 + one.look(60), 31);
        due("its tape", one.look(9), 0);
        due("its bytes", one.octet(0), -1);
        one.game(2, 2, 2, true, true);
        due("the other's board", two.look(0) * 10 + two.look(5), 35);
        due("the other's values", one.value(0, 3) * 10 + two.value(0, 3), -10);
    }
}
