import java.util.Arrays;

/** Tells a game of rows on a small board: see README.md. */
public final class GameTeller {
    public static final int NONE = -1;

    private static final int NO_SUCH_VALUE = -2;
    private static final int MOST_ROOM = 200;

    private final Board board;
    private final Match match;
    private final Search search;
    private final Judge judge;
    private final Scribe scribe;
    private final Chooser chooser;
    private final Tape tape;
    private final Text told;

    public GameTeller() {
        board = new Board();
        match = new Match(board);
        search = new Search(board);
        judge = new Judge(board, match, search);
        scribe = new Scribe(board, match, judge);
        chooser = new Chooser();
        tape = new Tape();
        told = new Text();
    }

    public boolean game(int w, int h, int k, boolean gravity, boolean loses) {
        if (!board.lay(w, h, k, gravity, loses)) {
            return false;
        }
        match.clear();
        judge.forgetAll();
        return true;
    }

    public int play(int cell) {
        return setStone(board.bitOf(cell)) ? match.count : NONE;
    }

    public int back() {
        return match.takeBack() ? match.count : NONE;
    }

    public boolean depth(int d) {
        return judge.tellDepth(d);
    }

    public boolean weight(int what, int n) {
        return judge.tellWeight(what, n);
    }

    public int value(int n, int d) {
        if (!isPosition(n) || d < 0 || d > Search.DEEPEST) {
            return NO_SUCH_VALUE;
        }
        return judge.valueBehind(n, d);
    }

    public int best(int n, int d) {
        if (!isPosition(n) || d < 1 || d > Search.DEEPEST || match.hasEndedBehind(n)) {
            return NONE;
        }
        int mine = match.stonesOf(n & 1, n);
        int other = match.stonesOf(1 - (n & 1), n);
        int moves = board.openCells(mine | other);
        int greatest = judge.valueBehind(n, d);
        boolean allLose = greatest < 0;
        return board.cellOf(allLose
                ? moves & -moves
                : search.lowestReaching(mine, other, moves, d - 1, greatest));
    }

    public int found(int n, int what) {
        if (!isMove(n) || what < 0 || what >= Judge.KINDS) {
            return NONE;
        }
        judge.examine();
        return judge.amountOf(n, what);
    }

    public int leader(int n) {
        return isPosition(n) ? judge.leaderBehind(n) : NONE;
    }

    public int plan(int player) {
        if (player < 0 || player > 1 || match.hasEndedBehind(match.count)) {
            return NONE;
        }
        int own = match.stonesOf(player, match.count);
        int other = match.stonesOf(1 - player, match.count);
        int fewest = board.fewestToRow(own, other);
        return fewest <= Board.LONGEST ? fewest : NONE;
    }

    public int words(int n, int level) {
        if (!isMove(n) || !Scribe.isLevel(level)) {
            return NONE;
        }
        judge.examine();
        told.clear();
        scribe.writeWords(told, n, level);
        return told.length;
    }

    public int tale(int level) {
        if (!Scribe.isLevel(level)) {
            return NONE;
        }
        judge.examine();
        told.clear();
        for (int n = 1; n <= match.count; n++) {
            if (n > 1) {
                told.addByte(' ');
            }
            scribe.writeWords(told, n, level);
        }
        return told.length;
    }

    public int octet(int i) {
        return told.byteAt(i);
    }

    public int chosen(int room) {
        if (room < 0 || room > MOST_ROOM) {
            return NONE;
        }
        judge.examine();
        chooser.clear();
        for (int n = 1; n <= match.count; n++) {
            int worth = judge.worthOf(n);
            if (worth > 0) {
                chooser.offer(n, worth, scribe.lengthOfAllWords(n));
            }
        }
        return chooser.choose(room);
    }

    public int worth(int n) {
        if (!isMove(n)) {
            return NONE;
        }
        judge.examine();
        return judge.worthOf(n);
    }

    public int feed(int a, int b, int c, int d, int e) {
        if (!tape.hasRoomForTwenty()) {
            return NONE;
        }
        tape.addFour(a);
        tape.addFour(b);
        tape.addFour(c);
        tape.addFour(d);
        tape.addFour(e);
        return tape.length;
    }

    public int read(int n) {
        if (n < 0 || n > tape.length) {
            return NONE;
        }
        int before = match.count;
        int at = 0;
        for (int tries = 0; tries < n && at < n; tries++) {
            if (!tape.readWords(at, n, match.count + 1)
                    || !setStone(board.bitAt(tape.column, tape.row))) {
                break;
            }
            at = Math.min(tape.end + 1, n);
        }
        tape.finish(at);
        return match.count - before;
    }

    public int look(int what) {
        if (what >= 60) {
            return judge.weightOf(what - 60);
        }
        if (what >= 40) {
            return ownerOf(what - 40);
        }
        if (what >= 20) {
            return board.cellOf(match.bitOfMove(what - 20 + 1));
        }
        return lookAtState(what);
    }

    private int lookAtState(int what) {
        switch (what) {
            case 0: return board.width;
            case 1: return board.height;
            case 2: return board.rowLength;
            case 3: return board.gravity ? 1 : 0;
            case 4: return board.rowsLose ? 1 : 0;
            case 5: return match.count;
            case 6: return match.result;
            case 7: return match.hasEndedBehind(match.count) ? NONE : match.count & 1;
            case 8: return judge.toldDepth;
            case 9: return tape.length;
            case 10: return tape.unsetPlace;
            default: return NONE;
        }
    }

    private int ownerOf(int cell) {
        int bit = board.bitOf(cell);
        if (bit == 0) {
            return NONE;
        }
        if ((match.stonesOf(0, match.count) & bit) != 0) {
            return 0;
        }
        return (match.stonesOf(1, match.count) & bit) != 0 ? 1 : 2;
    }

    private boolean setStone(int bit) {
        if (!match.addMove(bit)) {
            return false;
        }
        judge.forgetMove(match.count);
        return true;
    }

    private boolean isMove(int n) {
        return n >= 1 && n <= match.count;
    }

    private boolean isPosition(int n) {
        return n >= 0 && n <= match.count;
    }

    /**
     * The board and its rules. Sets of cells are bits of an int: the bit of a cell is at
     * STRIDE times its row and its column. STRIDE is one more than the widest board has
     * columns, so the bits between two rows stay free and no line runs round an edge.
     */
    private static final class Board {
        static final int MOST_CELLS = 16;
        static final int SHORTEST = 2;
        static final int LONGEST = 4;
        private static final int STRIDE = 5;
        private static final int PLACES = STRIDE * LONGEST;
        // From a cell's place to that of its neighbour on the right, above to the left, above, above to the right.
        private static final int[] STEPS = {1, 4, 5, 6};

        int width;
        int height;
        int rowLength;
        boolean gravity;
        boolean rowsLose;
        private int whole;
        private int bottom;

        Board() {
            lay(3, 3, 3, false, false);
        }

        boolean lay(int w, int h, int k, boolean falls, boolean loses) {
            if (!isSide(w) || !isSide(h) || !isSide(k) || k > Math.max(w, h)) {
                return false;
            }
            width = w;
            height = h;
            rowLength = k;
            gravity = falls;
            rowsLose = loses;
            bottom = (1 << w) - 1;
            whole = 0;
            for (int row = 0; row < h; row++) {
                whole |= bottom << (row * STRIDE);
            }
            return true;
        }

        private static boolean isSide(int length) {
            return length >= SHORTEST && length <= LONGEST;
        }

        /** The bit of a cell by its number; 0 if the board has none such. */
        int bitOf(int cell) {
            if (cell < 0) {
                return 0;
            }
            for (int row = 0; row < height; row++) {
                int column = cell - row * width;
                if (column < width) {
                    return bitAt(column, row);
                }
            }
            return 0;
        }

        int bitAt(int column, int row) {
            boolean there = column >= 0 && column < width && row >= 0 && row < height;
            return there ? 1 << (row * STRIDE + column) : 0;
        }

        /** The number of a bit's cell; NONE for no bit. */
        int cellOf(int bit) {
            return bit == 0 ? NONE : rowOf(bit) * width + columnOf(bit);
        }

        int columnOf(int bit) {
            return Integer.bitCount(bit - 1) % STRIDE;
        }

        int rowOf(int bit) {
            return Integer.bitCount(bit - 1) / STRIDE;
        }

        /** The cells that are moves when these are taken. */
        int openCells(int taken) {
            int free = whole & ~taken;
            return gravity ? free & ((taken << STRIDE) | bottom) : free;
        }

        /** Where one stone more makes a row of these: taken cells and places off the board may be among them. */
        int completing(int stones) {
            int cells = 0;
            for (int step : STEPS) {
                int above = stones >>> step;
                int below = stones << step;
                int twoAbove = above & (above >>> step);
                int twoBelow = below & (below << step);
                if (rowLength == 2) {
                    cells |= above | below;
                } else if (rowLength == 3) {
                    cells |= twoAbove | twoBelow | (above & below);
                } else {
                    cells |= twoAbove & (twoAbove >>> step) | twoBelow & (twoBelow << step);
                    cells |= twoAbove & below | above & twoBelow;
                }
            }
            return cells;
        }

        /** How many stones a player alone needs for a row; more than the board has cells if no row can come. */
        int fewestToRow(int own, int other) {
            int fewest = MOST_CELLS + 1;
            for (int step : STEPS) {
                int line = lineAlong(step);
                int reach = (rowLength - 1) * step;
                for (int place = 0; place + reach < PLACES; place++) {
                    int cells = line << place;
                    if ((cells & ~whole) == 0 && (cells & other) == 0) {
                        int needed = withSupports(cells & ~own, whole & ~(own | other));
                        fewest = Math.min(fewest, Integer.bitCount(needed));
                    }
                }
            }
            return fewest;
        }

        /** A row that begins at place 0. */
        private int lineAlong(int step) {
            int line = 1;
            for (int i = 1; i < rowLength; i++) {
                line |= 1 << (i * step);
            }
            return line;
        }

        /** With gravity, a stone needs all free cells under it filled first. */
        private int withSupports(int cells, int free) {
            int needed = cells;
            for (int row = 1; row < height && gravity; row++) {
                needed |= (needed >>> STRIDE) & free;
            }
            return needed;
        }
    }

    /** The moves that were set, and how the game stands behind them. */
    private static final class Match {
        private static final int GOES_ON = 0;
        private static final int NOBODY_WON = 3;

        private final Board board;
        private final int[] bits;
        int count;
        int result;

        Match(Board itsBoard) {
            board = itsBoard;
            bits = new int[Board.MOST_CELLS];
        }

        void clear() {
            count = 0;
            result = GOES_ON;
        }

        boolean addMove(int bit) {
            int taken = stonesOf(0, count) | stonesOf(1, count);
            boolean open = (board.openCells(taken) & bit) != 0;
            if (!open || result != GOES_ON || count >= bits.length) {
                return false;
            }
            int maker = count & 1;
            boolean row = (board.completing(stonesOf(maker, count)) & bit) != 0;
            bits[count] = bit;
            count++;
            if (row) {
                result = (board.rowsLose ? 1 - maker : maker) + 1;
            } else if (board.openCells(taken | bit) == 0) {
                result = NOBODY_WON;
            }
            return true;
        }

        boolean takeBack() {
            if (count == 0) {
                return false;
            }
            count--;
            result = GOES_ON;
            return true;
        }

        /** The cell of move n (from 1 on) as a bit; 0 if there is no such move. */
        int bitOfMove(int n) {
            return n >= 1 && n <= count && n <= bits.length ? bits[n - 1] : 0;
        }

        /** A player's stones behind the first n moves. */
        int stonesOf(int player, int n) {
            int stones = 0;
            for (int move = player + 1; move <= n && move <= Board.MOST_CELLS; move += 2) {
                stones |= bitOfMove(move);
            }
            return stones;
        }

        /** Only behind the last move can a game have ended. */
        boolean hasEndedBehind(int n) {
            return n == count && result != GOES_ON;
        }

        /** For who would be to move, in a game that has ended. */
        int endValue() {
            if (result == NOBODY_WON) {
                return 0;
            }
            return result == (count & 1) + 1 ? 1 : -1;
        }
    }

    /** Looks ahead. It asks only whether a goal is reached, so that most moves need not be tried. */
    private static final class Search {
        static final int DEEPEST = 5;

        private final Board board;

        Search(Board itsBoard) {
            board = itsBoard;
        }

        /** The lowest of these moves behind which the opposite value is at least the goal (0 or 1); 0 if none. */
        int lowestReaching(int mine, int other, int moves, int depth, int goal) {
            int rows = board.completing(mine);
            int left = moves;
            for (int i = 0; i < Board.MOST_CELLS && left != 0; i++) {
                int bit = left & -left;
                boolean row = (rows & bit) != 0;
                if (row ? !board.rowsLose : !reaches(other, mine | bit, depth, 1 - goal)) {
                    return bit;
                }
                left ^= bit;
            }
            return 0;
        }

        /** The value by a depth for who is to move, with the stones 'mine'; no row stands. */
        int valueFor(int mine, int other, int depth) {
            if (!reaches(mine, other, depth, 0)) {
                return -1;
            }
            return reaches(mine, other, depth, 1) ? 1 : 0;
        }

        /** Whether that value is at least the goal. */
        private boolean reaches(int mine, int other, int depth, int goal) {
            int open = board.openCells(mine | other);
            if (open == 0 || depth < 1 || depth > DEEPEST) {
                return goal <= 0;
            }
            int rows = board.completing(mine) & open;
            if (rows != 0 && !board.rowsLose) {
                return true;
            }
            int left = open & ~rows;
            if (depth == 1) {
                return goal <= 0 && left != 0;
            }
            for (int i = 0; i < Board.MOST_CELLS && left != 0; i++) {
                int bit = left & -left;
                if (!reaches(other, mine | bit, depth - 1, 1 - goal)) {
                    return true;
                }
                left ^= bit;
            }
            return false;
        }
    }

    /** What is found of the moves, and what it is worth. Both are kept till a move or the depth changes. */
    private static final class Judge {
        static final int WIN = 0;
        static final int THREAT = 1;
        static final int FORCED = 2;
        static final int SLIP = 3;
        static final int MISSED = 4;
        static final int TURN = 5;
        static final int KINDS = 6;

        private static final int DEEPEST_TOLD = 4;
        private static final int HEAVIEST = 99;
        private static final int NOBODY = 2;
        private static final int UNKNOWN = 2;
        private static final int POSITIONS = Board.MOST_CELLS + 1;
        private static final int DEPTHS = Search.DEEPEST + 1;

        private final Board board;
        private final Match match;
        private final Search search;
        private final int[] weights;
        private final int[] values;
        private final int[] amounts;
        int toldDepth;
        private int examined;

        Judge(Board itsBoard, Match itsMatch, Search itsSearch) {
            board = itsBoard;
            match = itsMatch;
            search = itsSearch;
            weights = new int[KINDS];
            values = new int[POSITIONS * DEPTHS];
            amounts = new int[POSITIONS * KINDS];
            toldDepth = 3;
            Arrays.fill(weights, 1);
            Arrays.fill(values, UNKNOWN);
        }

        boolean tellDepth(int d) {
            if (d < 1 || d > DEEPEST_TOLD) {
                return false;
            }
            toldDepth = d;
            examined = 0;
            return true;
        }

        boolean tellWeight(int what, int n) {
            if (what < 0 || what >= weights.length || n < 0 || n > HEAVIEST) {
                return false;
            }
            weights[what] = n;
            return true;
        }

        int weightOf(int what) {
            return what >= 0 && what < weights.length ? weights[what] : NONE;
        }

        void forgetAll() {
            Arrays.fill(values, UNKNOWN);
            examined = 0;
        }

        /** Move n was set anew: what was known of it, and behind it, holds no more. */
        void forgetMove(int n) {
            for (int d = 0; d < DEPTHS; d++) {
                int at = n * DEPTHS + d;
                if (at >= 0 && at < values.length) {
                    values[at] = UNKNOWN;
                }
            }
            examined = Math.min(examined, n - 1);
        }

        /** The value by a depth behind the first n moves. */
        int valueBehind(int n, int d) {
            if (match.hasEndedBehind(n)) {
                return match.endValue();
            }
            int at = n * DEPTHS + d;
            if (d < 1 || d >= DEPTHS || at < 0 || at >= values.length) {
                return 0;
            }
            if (values[at] == UNKNOWN) {
                int turn = n & 1;
                int mine = match.stonesOf(turn, n);
                int other = match.stonesOf(1 - turn, n);
                values[at] = search.valueFor(mine, other, d);
            }
            return values[at];
        }

        int leaderBehind(int n) {
            int value = valueBehind(n, toldDepth);
            if (value == 0) {
                return NOBODY;
            }
            return value > 0 ? n & 1 : 1 - (n & 1);
        }

        /** Brings the amounts of all moves up to date; amountOf and worthOf only look them up. */
        void examine() {
            for (int n = examined + 1; n <= match.count; n++) {
                keep(n, WIN, winOf(n));
                keep(n, THREAT, threatOf(n));
                keep(n, FORCED, forcedOf(n));
                keep(n, SLIP, valueBehind(n - 1, toldDepth) + valueBehind(n, toldDepth - 1));
                keep(n, MISSED, Integer.bitCount(missedBy(n)));
            }
            examined = match.count;
            int turn = turningMove();
            for (int n = 1; n <= match.count; n++) {
                keep(n, TURN, n == turn ? 1 : 0);
            }
        }

        private void keep(int n, int what, int amount) {
            int at = n * KINDS + what;
            if (at >= 0 && at < amounts.length) {
                amounts[at] = amount;
            }
        }

        int amountOf(int n, int what) {
            int at = n * KINDS + what;
            return at >= 0 && at < amounts.length ? amounts[at] : 0;
        }

        int worthOf(int n) {
            int worth = 0;
            for (int what = 0; what < weights.length; what++) {
                worth += amountOf(n, what) * weights[what];
            }
            return worth;
        }

        private int winOf(int n) {
            return match.hasEndedBehind(n) && match.result == makerOf(n) + 1 ? 1 : 0;
        }

        private int threatOf(int n) {
            return match.hasEndedBehind(n) ? 0 : Integer.bitCount(winningFor(makerOf(n), n));
        }

        private int forcedOf(int n) {
            int mine = match.stonesOf(makerOf(n), n - 1);
            int other = match.stonesOf(1 - makerOf(n), n - 1);
            int others = board.openCells(mine | other) & ~match.bitOfMove(n);
            if (others == 0 || valueBehind(n, toldDepth - 1) == 1) {
                return 0;
            }
            return search.lowestReaching(mine, other, others, toldDepth - 1, 0) == 0 ? 1 : 0;
        }

        /** The cells with which the maker of move n would have won at once, if the move is none of them. */
        int missedBy(int n) {
            int winning = winningFor(makerOf(n), n - 1);
            return (winning & match.bitOfMove(n)) != 0 ? 0 : winning;
        }

        /** With which cells a player would win at once behind the first n moves, if it were that one's turn. */
        private int winningFor(int player, int n) {
            int own = match.stonesOf(player, n);
            int open = board.openCells(own | match.stonesOf(1 - player, n));
            return board.rowsLose ? 0 : board.completing(own) & open;
        }

        /** At most one move turned the game: that with which the last leader began to lead till the end. */
        private int turningMove() {
            int turn = 0;
            int last = leaderBehind(match.count);
            for (int n = match.count; n >= 1 && last != NOBODY; n--) {
                if (leaderBehind(n) != last) {
                    break;
                }
                turn = n;
            }
            return turn;
        }

        private static int makerOf(int n) {
            return 1 - (n & 1);
        }
    }

    /** Bytes that are told. */
    private static final class Text {
        // Sixteen moves of at most 16 bytes each, and a blank behind each.
        private static final int MOST = 272;

        private final byte[] bytes;
        int length;

        Text() {
            bytes = new byte[MOST];
        }

        void clear() {
            length = 0;
        }

        void addByte(int octet) {
            if (length < bytes.length) {
                bytes[length] = (byte) octet;
                length++;
            }
        }

        void addNumber(int n) {
            if (n >= 10) {
                addByte('0' + n / 10);
            }
            addByte('0' + n % 10);
        }

        int byteAt(int i) {
            return i >= 0 && i < length && i < bytes.length ? bytes[i] : NONE;
        }
    }

    /** Puts moves into words. */
    private static final class Scribe {
        private static final int ALL = 1;

        private final Board board;
        private final Match match;
        private final Judge judge;
        private final Text draft;

        Scribe(Board itsBoard, Match itsMatch, Judge itsJudge) {
            board = itsBoard;
            match = itsMatch;
            judge = itsJudge;
            draft = new Text();
        }

        static boolean isLevel(int level) {
            return level == 0 || level == ALL;
        }

        void writeWords(Text text, int n, int level) {
            text.addNumber(n);
            text.addByte('.');
            writeCell(text, match.bitOfMove(n));
            writeSigns(text, '#', judge.amountOf(n, Judge.WIN));
            int threat = judge.amountOf(n, Judge.THREAT);
            if (threat > 0) {
                text.addByte('+');
                text.addNumber(threat);
            }
            if (level == ALL) {
                writeSigns(text, '!', judge.amountOf(n, Judge.FORCED));
                writeSigns(text, '?', judge.amountOf(n, Judge.SLIP));
            }
            int missed = judge.missedBy(n);
            if (missed != 0) {
                text.addByte('*');
                writeCell(text, missed & -missed);
            }
            if (level == ALL) {
                writeSigns(text, '=', judge.amountOf(n, Judge.TURN));
            }
        }

        private void writeCell(Text text, int bit) {
            text.addByte('a' + board.columnOf(bit));
            text.addByte('1' + board.rowOf(bit));
        }

        private void writeSigns(Text text, char sign, int times) {
            for (int i = 0; i < times; i++) {
                text.addByte(sign);
            }
        }

        int lengthOfAllWords(int n) {
            draft.clear();
            writeWords(draft, n, ALL);
            return draft.length;
        }
    }

    /** Chooses the moves whose words are worth most in a room. */
    private static final class Chooser {
        private static final int MOST_OFFERED = 12;
        // A blank behind each move's words makes them all alike; the room is then one byte larger.
        private static final int BLANK = 1;

        private final int[] numbers;
        private final int[] worths;
        private final int[] costs;
        private int offered;
        private final int[] bestWorths;
        private final int[] bestCosts;
        private final int[] bestSets;

        Chooser() {
            numbers = new int[MOST_OFFERED];
            worths = new int[MOST_OFFERED];
            costs = new int[MOST_OFFERED];
            bestWorths = new int[MOST_ROOM + BLANK + 1];
            bestCosts = new int[MOST_ROOM + BLANK + 1];
            bestSets = new int[MOST_ROOM + BLANK + 1];
        }

        void clear() {
            offered = 0;
        }

        void offer(int number, int worth, int bytes) {
            if (offered < MOST_OFFERED) {
                numbers[offered] = number;
                worths[offered] = worth;
                costs[offered] = bytes + BLANK;
                offered++;
            }
        }

        int choose(int room) {
            Arrays.fill(bestWorths, 0);
            Arrays.fill(bestCosts, 0);
            Arrays.fill(bestSets, 0);
            int space = Math.min(room + BLANK, bestSets.length - 1);
            // From the last move to the first: of like sets, the one that takes the move at hand is right.
            for (int i = offered - 1; i >= 0; i--) {
                weigh(i, space);
            }
            return space >= 0 ? bestSets[space] : 0;
        }

        /** Largest space first, so that what a smaller one holds is still without this move. */
        private void weigh(int i, int space) {
            for (int large = space; large >= costs[i]; large--) {
                int small = large - costs[i];
                int worth = bestWorths[small] + worths[i];
                int cost = bestCosts[small] + costs[i];
                boolean dearer = worth > bestWorths[large];
                if (dearer || worth == bestWorths[large] && cost <= bestCosts[large]) {
                    bestWorths[large] = worth;
                    bestCosts[large] = cost;
                    bestSets[large] = bestSets[small] | 1 << (numbers[i] - 1);
                }
            }
        }
    }

    /** Bytes that are fed, and read as words of moves. */
    private static final class Tape {
        private static final int MOST = 120;
        private static final int FEED = 20;

        private final int[] bytes;
        int length;
        int unsetPlace;
        // What readWords found: the cell, and the place behind the words.
        int column;
        int row;
        int end;

        Tape() {
            bytes = new int[MOST];
        }

        boolean hasRoomForTwenty() {
            return length + FEED <= MOST;
        }

        void addFour(int word) {
            for (int shift = 24; shift >= 0; shift -= 8) {
                if (length < bytes.length) {
                    bytes[length] = (word >>> shift) & 255;
                    length++;
                }
            }
        }

        /** All was read; the move that was not set begins at this place. */
        void finish(int place) {
            unsetPlace = place;
            length = 0;
        }

        /** Reads the words of the move with this number, which begin here; false if they can't be read. */
        boolean readWords(int start, int limit, int number) {
            int at = behindNumber(start, limit, number);
            if (!isCellAt(at, limit)) {
                return false;
            }
            column = byteAt(at, limit) - 'a';
            row = byteAt(at + 1, limit) - '1';
            end = behindSigns(at + 2, limit);
            return end == limit || byteAt(end, limit) == ' ';
        }

        /** Stays where it is if the number and its dot don't stand there. */
        private int behindNumber(int start, int limit, int number) {
            int at = start;
            if (number >= 10) {
                if (byteAt(at, limit) != '0' + number / 10) {
                    return start;
                }
                at++;
            }
            boolean there = byteAt(at, limit) == '0' + number % 10 && byteAt(at + 1, limit) == '.';
            return there ? at + 2 : start;
        }

        private int behindSigns(int start, int limit) {
            int at = start;
            for (int i = 0; i < MOST; i++) {
                int next = behindSign(at, limit);
                if (next == at) {
                    break;
                }
                at = next;
            }
            return at;
        }

        /** Stays where it is if no sign can be read there. */
        private int behindSign(int at, int limit) {
            switch (byteAt(at, limit)) {
                case '#':
                case '!':
                case '?':
                case '=':
                    return at + 1;
                case '*':
                    return isCellAt(at + 1, limit) ? at + 3 : at;
                case '+':
                    if (!isDigitAt(at + 1, limit)) {
                        return at;
                    }
                    return isDigitAt(at + 2, limit) ? at + 3 : at + 2;
                default:
                    return at;
            }
        }

        private boolean isCellAt(int at, int limit) {
            int letter = byteAt(at, limit);
            int digit = byteAt(at + 1, limit);
            return letter >= 'a' && letter <= 'd' && digit >= '1' && digit <= '4';
        }

        private boolean isDigitAt(int at, int limit) {
            int digit = byteAt(at, limit);
            return digit >= '0' && digit <= '9';
        }

        private int byteAt(int at, int limit) {
            return at >= 0 && at < limit && at < bytes.length ? bytes[at] : NONE;
        }
    }
}
