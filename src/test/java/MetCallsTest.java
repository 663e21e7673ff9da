import java.util.ArrayList;
import java.util.List;
import java.util.Set;
import java.util.TreeSet;
import java.util.function.Consumer;
import java.util.function.ToIntFunction;

/** "Nothing is promised beyond the answers and state changes described above": a call changes what it names, no more. */
public final class MetCallsTest extends Scenes {
    private static final int NO_VALUE = -2;
    private static final Consumer<GameTeller> NOTHING = teller -> { };

    /**
     * A call that is met, and what undoes it. It may change the answers of these looks; behind its undoing, only
     * these views may still be others than ahead of it.
     */
    private record Met(String call, ToIntFunction<GameTeller> caller, Consumer<GameTeller> undo, Set<Integer> looks,
            Set<String> views) { }

    public static void main(String[] args) {
        Set<String> names = new TreeSet<>();
        for (State state : STATES) {
            about(state.name());
            for (Met met : callsMetIn(state)) {
                names.add(met.call().substring(0, met.call().indexOf('(')));
                leavesOtherLooks(state, met);
                leavesToldBytes(state, met);
                leavesTape(state, met);
                for (View view : VIEWS) {
                    leavesView(state, met, view);
                }
            }
        }
        about("each call");
        due("all eighteen are among them: " + names, names.size(), 18);
        finish("MetCallsTest");
    }

    private static GameTeller call(State state, Met met) {
        GameTeller teller = state.maker().get();
        met.caller().applyAsInt(teller);
        return teller;
    }

    private static void leavesOtherLooks(State state, Met met) {
        GameTeller ahead = state.maker().get();
        GameTeller behind = call(state, met);
        for (int what = 0; what < 70; what++) {
            if (!met.looks().contains(what)) {
                due(met.call() + ", then look(" + what + ")", behind.look(what), ahead.look(what));
            }
        }
    }

    private static void leavesToldBytes(State state, Met met) {
        if (!met.views().contains("octet")) {
            due(met.call() + ", then octet", allOctets(call(state, met)), allOctets(state.maker().get()));
        }
    }

    /** The bytes that were there; those that the call may bring come behind them. */
    private static void leavesTape(State state, Met met) {
        GameTeller ahead = state.maker().get();
        GameTeller behind = call(state, met);
        int bytes = ahead.look(9);
        if (!met.call().startsWith("read")) {
            due(met.call() + ", then the tape", tapeAsMoves(behind, bytes), tapeAsMoves(ahead, bytes));
        }
    }

    private static String tapeAsMoves(GameTeller teller, int bytes) {
        due("game", teller.game(4, 4, 4, false, false), true);
        StringBuilder all = new StringBuilder();
        all.append(teller.read(bytes)).append(" moves to ").append(teller.look(10)).append(':');
        for (int i = 0; i < 16; i++) {
            all.append(' ').append(teller.look(20 + i));
        }
        return all.toString();
    }

    private static void leavesView(State state, Met met, View view) {
        if (met.views().contains(view.name())) {
            return;
        }
        String ahead = view.told().apply(state.maker().get());
        GameTeller cold = call(state, met);
        met.undo().accept(cold);
        due(met.call() + ", undone, then " + view.name(), view.told().apply(cold), ahead);
        if (!view.changesSomething()) {
            GameTeller warm = state.maker().get();
            view.told().apply(warm);
            met.caller().applyAsInt(warm);
            met.undo().accept(warm);
            due(met.call() + ", undone, then " + view.name() + " again", view.told().apply(warm), ahead);
        }
    }

    private static List<Met> callsMetIn(State state) {
        GameTeller teller = state.maker().get();
        List<Met> all = new ArrayList<>();
        addQuestions(all, teller);
        addTellings(all, teller);
        addSettings(all, teller);
        addMoves(all, teller);
        addGames(all, teller);
        addTapes(all, teller);
        return all;
    }

    private static void addQuestion(List<Met> all, GameTeller teller, String call, ToIntFunction<GameTeller> caller) {
        int answer = caller.applyAsInt(teller);
        if (answer != NONE && answer != NO_VALUE || call.startsWith("value") && answer == -1) {
            all.add(new Met(call, caller, NOTHING, Set.of(), Set.of()));
        }
    }

    private static void addQuestions(List<Met> all, GameTeller teller) {
        int moves = teller.look(5);
        int[] positions = {0, 1, moves};
        for (int n : positions) {
            for (int d = 0; d <= 5; d++) {
                int depth = d;
                addQuestion(all, teller, "value(" + n + ", " + d + ")", t -> t.value(n, depth));
                addQuestion(all, teller, "best(" + n + ", " + d + ")", t -> t.best(n, depth));
                addQuestion(all, teller, "found(" + n + ", " + d + ")", t -> t.found(n, depth));
            }
            addQuestion(all, teller, "leader(" + n + ")", t -> t.leader(n));
            addQuestion(all, teller, "worth(" + n + ")", t -> t.worth(n));
            addQuestion(all, teller, "plan(" + n + ")", t -> t.plan(n));
            addQuestion(all, teller, "octet(" + n + ")", t -> t.octet(n));
        }
        int[] rooms = {0, 20, 200};
        for (int room : rooms) {
            addQuestion(all, teller, "chosen(" + room + ")", t -> t.chosen(room));
        }
        for (int what = 0; what < 66; what++) {
            int kind = what;
            addQuestion(all, teller, "look(" + what + ")", t -> t.look(kind));
        }
    }

    /** They change what octet() tells, which the views "octet" and "game" ask. */
    private static void addTellings(List<Met> all, GameTeller teller) {
        int moves = teller.look(5);
        Set<String> views = Set.of("octet", "game");
        for (int i = 0; i <= 1; i++) {
            int level = i;
            all.add(new Met("tale(" + level + ")", t -> t.tale(level), NOTHING, Set.of(), views));
            if (moves > 0) {
                all.add(new Met("words(1, " + level + ")", t -> t.words(1, level), NOTHING, Set.of(), views));
                all.add(new Met("words(last, " + level + ")", t -> t.words(moves, level), NOTHING, Set.of(), views));
            }
        }
    }

    private static void addSettings(List<Met> all, GameTeller teller) {
        int toldDepth = teller.look(8);
        for (int i = 1; i <= 4; i++) {
            int d = i;
            all.add(new Met("depth(" + d + ")", t -> t.depth(d) ? 1 : 0, t -> t.depth(toldDepth), Set.of(8), Set.of()));
        }
        for (int i = 0; i <= 5; i++) {
            int what = i;
            int told = teller.look(60 + what);
            all.add(new Met("weight(" + what + ", 33)", t -> t.weight(what, 33) ? 1 : 0, t -> t.weight(what, told),
                    Set.of(60 + what), Set.of()));
        }
    }

    private static void addMoves(List<Met> all, GameTeller teller) {
        int moves = teller.look(5);
        for (int i = 0; i < 16; i++) {
            int cell = i;
            if (teller.play(cell) != NONE) {
                teller.back();
                all.add(new Met("play(" + cell + ")", t -> t.play(cell), GameTeller::back,
                        Set.of(5, 6, 7, 20 + moves, 40 + cell), Set.of()));
            }
        }
        if (moves > 0) {
            int last = teller.look(20 + moves - 1);
            all.add(new Met("back()", GameTeller::back, t -> t.play(last),
                    Set.of(5, 6, 7, 20 + moves - 1, 40 + last), Set.of()));
        }
    }

    private static void addGames(List<Met> all, GameTeller teller) {
        Consumer<GameTeller> undo = setAnew(teller);
        Set<Integer> looks = new TreeSet<>(Set.of(0, 1, 2, 3, 4, 5, 6, 7));
        addStones(looks);
        int[][] boards = {{3, 3, 3}, {4, 4, 4}, {2, 3, 2}};
        for (int[] b : boards) {
            String call = "game(" + b[0] + ", " + b[1] + ", " + b[2] + ")";
            all.add(new Met(call, t -> t.game(b[0], b[1], b[2], false, false) ? 1 : 0, undo, looks, Set.of()));
            all.add(new Met(call, t -> t.game(b[0], b[1], b[2], true, true) ? 1 : 0, undo, looks, Set.of()));
        }
    }

    private static void addStones(Set<Integer> looks) {
        for (int i = 0; i < 16; i++) {
            looks.add(20 + i);
            looks.add(40 + i);
        }
    }

    /** The same game once more, with the same moves. */
    private static Consumer<GameTeller> setAnew(GameTeller teller) {
        int[] board = {teller.look(0), teller.look(1), teller.look(2), teller.look(3), teller.look(4)};
        int[] cells = new int[teller.look(5)];
        for (int i = 0; i < cells.length; i++) {
            cells[i] = teller.look(20 + i);
        }
        return t -> {
            due("game", t.game(board[0], board[1], board[2], board[3] == 1, board[4] == 1), true);
            playAll(t, cells);
        };
    }

    private static void addTapes(List<Met> all, GameTeller teller) {
        int bytes = teller.look(9);
        int moves = teller.look(5);
        if (bytes <= 100) {
            all.add(new Met("feed(..)", t -> t.feed(0x20613420, 0x62342020, -1, 0, 1), NOTHING, Set.of(9),
                    Set.of("look", "read", "read in another game", "feed", "game")));
        }
        Set<Integer> looks = new TreeSet<>(Set.of(5, 6, 7, 9, 10));
        addStones(looks);
        int[] lengths = {0, 2, bytes / 2, bytes};
        for (int n : lengths) {
            if (n <= bytes) {
                all.add(new Met("read(" + n + ")", t -> t.read(n), t -> takeBackTo(t, moves), looks,
                        Set.of("look", "read", "read in another game", "feed", "game")));
            }
        }
    }

    private static void takeBackTo(GameTeller teller, int moves) {
        for (int left = teller.look(5); left > moves; left--) {
            due("back", teller.back(), left - 1);
        }
    }
}
