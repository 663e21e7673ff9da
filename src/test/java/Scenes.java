import java.util.List;
import java.util.function.Function;
import java.util.function.Supplier;

/** States that a teller may be in, and views that together tell all that can be asked of it. */
abstract class Scenes extends Checks {
    static final int NONE = -1;

    /** A teller that something has been done with; each use makes it anew. */
    record State(String name, Supplier<GameTeller> maker) { }

    /** A part of all that a teller tells. Each asks so little that a state and two views stay below 512 calls. */
    record View(String name, boolean changesSomething, Function<GameTeller, String> told) { }

    static final List<State> STATES = List.of(
            new State("a new object", GameTeller::new),
            new State("an empty game", Scenes::emptyGame),
            new State("a game that goes on", Scenes::openGame),
            new State("a game that falls", Scenes::fallingGame),
            new State("a game that was won", Scenes::wonGame),
            new State("a game that was lost", Scenes::lostGame),
            new State("a full board", Scenes::filledGame));

    static final List<View> VIEWS = List.of(
            new View("look", false, Scenes::allLooks),
            new View("value and leader", false, Scenes::allValues),
            new View("best", false, Scenes::allBest),
            new View("found, worth and plan", false, Scenes::allFindings),
            new View("octet", false, Scenes::allOctets),
            new View("chosen", false, Scenes::allChosen),
            new View("words and tale", true, Scenes::allWords),
            new View("read", true, Scenes::tapeRead),
            new View("read in another game", true, Scenes::tapeReadElsewhere),
            new View("feed", true, Scenes::tapeFilled),
            new View("back", true, Scenes::takenBack),
            new View("play", true, Scenes::playedOn),
            new View("game", true, Scenes::begunAnew));

    private static GameTeller emptyGame() {
        GameTeller teller = of(4, 4, 4, true, true);
        teller.depth(1);
        teller.weight(0, 99);
        teller.weight(5, 0);
        fillTape(teller);
        return teller;
    }

    private static GameTeller openGame() {
        GameTeller teller = threeByThree(0, 3, 1);
        teller.depth(4);
        teller.weight(1, 7);
        teller.words(3, 1);
        due("read", readText(teller, "4.c1 5.b2+ 6.c3"), 1);
        feedText(teller, "b2+2 c3 b3#");
        return teller;
    }

    private static GameTeller fallingGame() {
        GameTeller teller = of(4, 3, 3, true, false, 1, 5, 0, 2);
        feedText(teller, "a2 a3 x");
        teller.tale(0);
        return teller;
    }

    private static GameTeller wonGame() {
        GameTeller teller = threeByThree(0, 3, 1, 4, 2);
        teller.tale(1);
        feedText(teller, "c2 c3 a3 b3 and more than twenty bytes");
        return teller;
    }

    private static GameTeller lostGame() {
        GameTeller teller = of(2, 2, 2, false, true, 0, 1, 2);
        teller.depth(2);
        teller.words(3, 0);
        fillTape(teller);
        return teller;
    }

    private static GameTeller filledGame() {
        GameTeller teller = fullBoard();
        teller.weight(3, 50);
        teller.tale(1);
        fillTape(teller);
        return teller;
    }

    /** Every byte of the tape counts: on an empty board of 4 by 4 it is read to its end. */
    static void fillTape(GameTeller teller) {
        StringBuilder text = new StringBuilder();
        for (int i = 0; i < 16; i++) {
            text.append(i > 0 ? " " : "").append(nameOf(FULL_BOARD[i], 4)).append("#!?=#", 0, i < 9 ? 5 : 4);
        }
        due("a text as long as the tape", text.length(), 120);
        feedText(teller, text.toString());
        due("a full tape", teller.look(9), 120);
    }

    static String allLooks(GameTeller teller) {
        StringBuilder all = new StringBuilder();
        for (int what = -2; what <= 70; what++) {
            all.append(teller.look(what)).append(' ');
        }
        return all.toString();
    }

    private static String allValues(GameTeller teller) {
        StringBuilder all = new StringBuilder();
        int moves = teller.look(5);
        for (int n = 0; n <= moves; n++) {
            for (int d = 0; d <= 5; d++) {
                all.append(teller.value(n, d)).append(' ');
            }
            all.append(teller.leader(n)).append(", ");
        }
        return all.toString();
    }

    private static String allBest(GameTeller teller) {
        StringBuilder all = new StringBuilder();
        int moves = teller.look(5);
        for (int n = 0; n <= moves; n++) {
            for (int d = 1; d <= 5; d++) {
                all.append(teller.best(n, d)).append(' ');
            }
        }
        return all.toString();
    }

    private static String allFindings(GameTeller teller) {
        StringBuilder all = new StringBuilder();
        int moves = teller.look(5);
        for (int n = 1; n <= moves; n++) {
            for (int what = 0; what <= 5; what++) {
                all.append(teller.found(n, what)).append(' ');
            }
            all.append(teller.worth(n)).append(", ");
        }
        return all.append(teller.plan(0)).append(' ').append(teller.plan(1)).toString();
    }

    static String allOctets(GameTeller teller) {
        StringBuilder all = new StringBuilder();
        for (int i = 0; i < 200; i++) {
            int octet = teller.octet(i);
            all.append(octet).append(' ');
            if (octet == NONE) {
                break;
            }
        }
        return all.toString();
    }

    private static String allChosen(GameTeller teller) {
        StringBuilder all = new StringBuilder();
        for (int room = 0; room <= 200; room += room < 40 ? 1 : 10) {
            all.append(teller.chosen(room)).append(' ');
        }
        return all.toString();
    }

    private static String allWords(GameTeller teller) {
        StringBuilder all = new StringBuilder();
        int moves = teller.look(5);
        for (int n = 1; n <= moves; n++) {
            all.append(teller.words(n, 0)).append(' ').append(teller.words(n, 1)).append(", ");
        }
        all.append(teller.tale(0)).append(' ').append(allOctets(teller));
        return all.append(teller.tale(1)).append(' ').append(allOctets(teller)).toString();
    }

    private static String tapeRead(GameTeller teller) {
        return teller.read(teller.look(9)) + ": " + allLooks(teller) + allValues(teller);
    }

    private static String tapeReadElsewhere(GameTeller teller) {
        return teller.game(4, 4, 4, true, false) + tapeRead(teller);
    }

    private static String tapeFilled(GameTeller teller) {
        StringBuilder all = new StringBuilder();
        for (int i = 0; i < 7; i++) {
            all.append(teller.feed(0x20613120, 0x62312020, 0, 0, 0)).append(' ');
        }
        return all + tapeRead(teller);
    }

    private static String takenBack(GameTeller teller) {
        StringBuilder all = new StringBuilder();
        for (int i = 0; i < 17; i++) {
            all.append(teller.back()).append(' ').append(teller.look(6)).append(' ').append(teller.look(7)).append(' ');
            all.append(teller.value(teller.look(5), 3)).append(' ').append(teller.plan(0)).append(", ");
        }
        return all.toString();
    }

    private static String playedOn(GameTeller teller) {
        StringBuilder all = new StringBuilder();
        for (int cell = 0; cell < 16; cell++) {
            all.append(teller.play(cell)).append(' ').append(teller.look(6)).append(", ");
        }
        return all + allFindings(teller);
    }

    private static String begunAnew(GameTeller teller) {
        return teller.game(4, 2, 3, false, true) + allLooks(teller) + allValues(teller) + allOctets(teller);
    }
}
