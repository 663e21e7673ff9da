import java.util.ArrayList;
import java.util.List;
import java.util.function.ToIntFunction;

/** "A call that is refused (NONE, false) changes nothing but the tape, where it is told." It is told nowhere. */
public final class RefusalsTest extends Scenes {
    private static final int NO_VALUE = -2;
    private static final int FALSE = 0;

    private record Refusal(String call, int answer, ToIntFunction<GameTeller> caller) { }

    public static void main(String[] args) {
        for (State state : STATES) {
            for (Refusal refusal : refusalsIn(state)) {
                about(state.name());
                for (View view : VIEWS) {
                    refuse(state, refusal, view);
                }
            }
            allRefusedTogether(state);
        }
        everyCallThatCanBeRefusedWas();
        everyByteOfTheFullTapeCounts();
        finish("RefusalsTest");
    }

    private static void refuse(State state, Refusal refusal, View view) {
        String ahead = view.told().apply(state.maker().get());
        String what = refusal.call() + ", then " + view.name();
        GameTeller cold = state.maker().get();
        due(refusal.call(), refusal.caller().applyAsInt(cold), refusal.answer());
        due(what, view.told().apply(cold), ahead);
        if (!view.changesSomething()) {
            GameTeller warm = state.maker().get();
            view.told().apply(warm);
            due(refusal.call(), refusal.caller().applyAsInt(warm), refusal.answer());
            due(what + " again", view.told().apply(warm), ahead);
        }
    }

    private static void allRefusedTogether(State state) {
        for (View view : VIEWS) {
            GameTeller teller = state.maker().get();
            for (Refusal refusal : refusalsIn(state)) {
                refusal.caller().applyAsInt(teller);
            }
            String ahead = view.told().apply(state.maker().get());
            due("all together, then " + view.name(), view.told().apply(teller), ahead);
        }
    }

    private static void everyCallThatCanBeRefusedWas() {
        about("each call that can be refused");
        String[] calls = {"game", "play", "back", "depth", "weight", "value", "best", "found", "leader", "plan", "words",
            "tale", "octet", "chosen", "worth", "feed", "read", "look"};
        for (String call : calls) {
            int times = 0;
            for (State state : STATES) {
                for (Refusal refusal : refusalsIn(state)) {
                    times += refusal.call().startsWith(call + "(") ? 1 : 0;
                }
            }
            due(call + " is among them", times > 0, true);
        }
    }

    private static void everyByteOfTheFullTapeCounts() {
        about("the full tape of these tests");
        GameTeller teller = of(4, 4, 4, true, false);
        fillTape(teller);
        due("all its moves are set", teller.read(120), 16);
        due("it is read to its end", teller.look(10), 120);
    }

    private static List<Refusal> refusalsIn(State state) {
        GameTeller teller = state.maker().get();
        List<Refusal> all = new ArrayList<>();
        addRefusedGames(all);
        addRefusedMoves(all, teller);
        addRefusedSettings(all);
        addRefusedQuestions(all, teller);
        addRefusedWords(all, teller);
        addRefusedTapes(all, teller);
        return all;
    }

    private static void addRefusedGames(List<Refusal> all) {
        int[][] boards = {{1, 3, 2}, {5, 3, 2}, {3, 1, 2}, {3, 5, 2}, {3, 3, 1}, {3, 3, 4}, {2, 2, 3}, {4, 4, 5},
            {0, 0, 0}, {-1, 4, 4}, {MIN, 2, 2}, {2, MAX, 2}, {2, 2, MIN}, {MAX, MAX, MAX}};
        for (int[] b : boards) {
            String call = "game(" + b[0] + ", " + b[1] + ", " + b[2] + ")";
            all.add(new Refusal(call, FALSE, t -> t.game(b[0], b[1], b[2], true, true) ? 1 : 0));
            all.add(new Refusal(call, FALSE, t -> t.game(b[0], b[1], b[2], false, false) ? 1 : 0));
        }
    }

    private static void addRefusedMoves(List<Refusal> all, GameTeller teller) {
        int cells = teller.look(0) * teller.look(1);
        boolean ended = teller.look(6) != 0;
        int[] outside = {-1, cells, 32, 256, MIN, MAX};
        for (int cell : outside) {
            all.add(new Refusal("play(" + cell + ")", NONE, t -> t.play(cell)));
        }
        for (int i = 0; i < cells; i++) {
            int cell = i;
            boolean taken = teller.look(40 + cell) != 2;
            boolean inTheAir = teller.look(3) == 1 && cell >= teller.look(0) && teller.look(40 + cell - teller.look(0)) == 2;
            if (ended || taken || inTheAir) {
                all.add(new Refusal("play(" + cell + ")", NONE, t -> t.play(cell)));
            }
        }
        if (teller.look(5) == 0) {
            all.add(new Refusal("back()", NONE, GameTeller::back));
        }
    }

    private static void addRefusedSettings(List<Refusal> all) {
        int[] depths = {0, 5, -1, 256 + 3, MIN, MAX};
        for (int d : depths) {
            all.add(new Refusal("depth(" + d + ")", FALSE, t -> t.depth(d) ? 1 : 0));
        }
        int[][] weights = {{-1, 5}, {6, 5}, {0, -1}, {0, 100}, {5, 100}, {5, -1}, {6, 100}, {MIN, 5}, {MAX, 5}, {2, MIN},
            {2, MAX}};
        for (int[] w : weights) {
            all.add(new Refusal("weight(" + w[0] + ", " + w[1] + ")", FALSE, t -> t.weight(w[0], w[1]) ? 1 : 0));
        }
    }

    private static void addRefusedQuestions(List<Refusal> all, GameTeller teller) {
        int moves = teller.look(5);
        boolean ended = teller.look(6) != 0;
        int[][] pairs = {{-1, 3}, {moves + 1, 3}, {0, -1}, {0, 6}, {moves, 6}, {MIN, 3}, {MAX, 3}, {0, MIN}, {0, MAX}};
        for (int[] p : pairs) {
            String pair = "(" + p[0] + ", " + p[1] + ")";
            all.add(new Refusal("value" + pair, NO_VALUE, t -> t.value(p[0], p[1])));
            all.add(new Refusal("best" + pair, NONE, t -> t.best(p[0], p[1])));
            all.add(new Refusal("found" + pair, NONE, t -> t.found(p[0], p[1])));
        }
        all.add(new Refusal("best(0, 0)", NONE, t -> t.best(0, 0)));
        all.add(new Refusal("found(0, 0)", NONE, t -> t.found(0, 0)));
        if (ended) {
            all.add(new Refusal("best(" + moves + ", 3)", NONE, t -> t.best(moves, 3)));
        }
        int[] positions = {-1, moves + 1, MIN, MAX};
        for (int n : positions) {
            all.add(new Refusal("leader(" + n + ")", NONE, t -> t.leader(n)));
            all.add(new Refusal("worth(" + n + ")", NONE, t -> t.worth(n)));
        }
        all.add(new Refusal("worth(0)", NONE, t -> t.worth(0)));
        int[] players = ended ? new int[] {-1, 0, 1, 2, MIN, MAX} : new int[] {-1, 2, MIN, MAX};
        for (int player : players) {
            all.add(new Refusal("plan(" + player + ")", NONE, t -> t.plan(player)));
        }
        int[] rooms = {-1, 201, MIN, MAX};
        for (int room : rooms) {
            all.add(new Refusal("chosen(" + room + ")", NONE, t -> t.chosen(room)));
        }
        int[] looks = {-1, 11, 19, 20 + moves, 39, 59, 66, MIN, MAX};
        for (int what : looks) {
            all.add(new Refusal("look(" + what + ")", NONE, t -> t.look(what)));
        }
    }

    private static void addRefusedWords(List<Refusal> all, GameTeller teller) {
        int moves = teller.look(5);
        int[][] pairs = {{0, 0}, {0, 1}, {moves + 1, 0}, {moves + 1, 1}, {1, -1}, {1, 2}, {MIN, 1}, {MAX, 1}, {1, MIN},
            {1, MAX}};
        for (int[] p : pairs) {
            all.add(new Refusal("words(" + p[0] + ", " + p[1] + ")", NONE, t -> t.words(p[0], p[1])));
        }
        int[] levels = {-1, 2, MIN, MAX};
        for (int level : levels) {
            all.add(new Refusal("tale(" + level + ")", NONE, t -> t.tale(level)));
        }
        int told = 0;
        while (teller.octet(told) != NONE) {
            told++;
        }
        int[] places = {-1, told, MIN, MAX};
        for (int i : places) {
            all.add(new Refusal("octet(" + i + ")", NONE, t -> t.octet(i)));
        }
    }

    private static void addRefusedTapes(List<Refusal> all, GameTeller teller) {
        int bytes = teller.look(9);
        if (bytes == 120) {
            all.add(new Refusal("feed(..)", NONE, t -> t.feed(0x61312062, 0x31206331, 0x20613220, 0x62322063, -1)));
            all.add(new Refusal("feed(0 ..)", NONE, t -> t.feed(0, 0, 0, 0, 0)));
        }
        int[] lengths = {-1, -120, bytes + 1, bytes + 20, 121, MIN, MAX};
        for (int n : lengths) {
            all.add(new Refusal("read(" + n + ")", NONE, t -> t.read(n)));
        }
    }
}
