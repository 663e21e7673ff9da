import java.nio.charset.StandardCharsets;
import java.util.Random;

/** Random runs of calls, each answered by GameTeller as PlainTeller answers it. */
public final class OracleTest {
    private static final int CALLS = 512;
    private static int wrong;

    private GameTeller real;
    private PlainTeller plain;
    private final Random random;
    private final StringBuilder run = new StringBuilder();
    private boolean failed;
    private int calls;

    private OracleTest(long seed) {
        random = new Random(seed);
    }

    public static void main(String[] args) {
        long first = args.length > 0 ? Long.parseLong(args[0]) : 1;
        int runs = args.length > 1 ? Integer.parseInt(args[1]) : 1500;
        for (long seed = first; seed < first + runs && wrong < 10; seed++) {
            new OracleTest(seed).runCalls(60);
            if (seed % 10 == 0) {
                new OracleTest(-seed).runToTheLastCall();
            }
        }
        System.out.println("OracleTest: " + runs + " runs, " + wrong + " wrong");
        if (wrong != 0) {
            System.exit(1);
        }
    }

    private void runCalls(int times) {
        real = new GameTeller();
        plain = new PlainTeller();
        if (random.nextInt(5) > 0) {
            newGame(true);
        }
        for (int i = 0; i < times && !failed; i++) {
            oneCall();
        }
        for (int what = -2; what < 80 && !failed; what++) {
            due("look(" + what + ")", real.look(what), plain.look(what));
        }
    }

    /** As many calls as an object is used for, and no new object in between. */
    private void runToTheLastCall() {
        real = new GameTeller();
        plain = new PlainTeller();
        for (int i = 0; i < CALLS && calls < CALLS && !failed; i++) {
            oneCall();
        }
    }

    private int near(int low, int high) {
        int odd = random.nextInt(40);
        if (odd == 0) {
            return low - 1;
        }
        if (odd == 1) {
            return high + 1;
        }
        if (odd == 2) {
            return random.nextBoolean() ? random.nextInt() : random.nextBoolean() ? Integer.MAX_VALUE : Integer.MIN_VALUE;
        }
        return low + random.nextInt(high - low + 1);
    }

    private void oneCall() {
        int moves = plain.look(5);
        switch (random.nextInt(24)) {
            case 0: newGame(false); break;
            case 1: due("back()", real.back(), plain.back()); break;
            case 2: tellDepth(near(1, 4)); break;
            case 3: tellWeight(near(0, 5), random.nextBoolean() ? near(0, 3) : near(0, 99)); break;
            case 4: askValue(near(0, moves), near(0, 5)); break;
            case 5: askBest(near(0, moves), near(1, 5)); break;
            case 6: case 7: askFound(near(1, Math.max(moves, 1))); break;
            case 8: askLeader(near(0, moves)); break;
            case 9: askPlan(near(0, 1)); break;
            case 10: askWords(near(1, Math.max(moves, 1)), near(0, 1)); break;
            case 11: askTale(near(0, 1)); break;
            case 12: case 13: askChosen(random.nextInt(3) == 0 ? near(0, 200) : near(0, 60)); break;
            case 14: askWorth(near(1, Math.max(moves, 1))); break;
            case 15: case 16: feedAndRead(); break;
            case 17: askOctet(near(0, 80)); break;
            default: playSome(); break;
        }
    }

    private void newGame(boolean allowed) {
        int w = allowed ? 2 + random.nextInt(3) : near(2, 4);
        int h = allowed ? 2 + random.nextInt(3) : near(2, 4);
        int k = near(2, 4);
        boolean gravity = random.nextBoolean();
        boolean loses = random.nextInt(3) == 0;
        String call = "game(" + w + ", " + h + ", " + k + ", " + gravity + ", " + loses + ")";
        due(call, real.game(w, h, k, gravity, loses) ? 1 : 0, plain.game(w, h, k, gravity, loses) ? 1 : 0);
    }

    private void playSome() {
        int stones = 1 + random.nextInt(4);
        for (int i = 0; i < stones; i++) {
            int cell = near(0, plain.look(0) * plain.look(1) - 1);
            due("play(" + cell + ")", real.play(cell), plain.play(cell));
        }
    }

    private void tellDepth(int d) {
        due("depth(" + d + ")", real.depth(d) ? 1 : 0, plain.depth(d) ? 1 : 0);
    }

    private void tellWeight(int what, int n) {
        due("weight(" + what + ", " + n + ")", real.weight(what, n) ? 1 : 0, plain.weight(what, n) ? 1 : 0);
    }

    private void askValue(int n, int d) {
        due("value(" + n + ", " + d + ")", real.value(n, d), plain.value(n, d));
    }

    private void askBest(int n, int d) {
        due("best(" + n + ", " + d + ")", real.best(n, d), plain.best(n, d));
    }

    private void askFound(int n) {
        for (int what = -1; what <= 6; what++) {
            due("found(" + n + ", " + what + ")", real.found(n, what), plain.found(n, what));
        }
    }

    private void askLeader(int n) {
        due("leader(" + n + ")", real.leader(n), plain.leader(n));
    }

    private void askPlan(int player) {
        due("plan(" + player + ")", real.plan(player), plain.plan(player));
    }

    private void askWords(int n, int level) {
        due("words(" + n + ", " + level + ")", real.words(n, level), plain.words(n, level));
        askAllOctets();
    }

    private void askTale(int level) {
        due("tale(" + level + ")", real.tale(level), plain.tale(level));
        askAllOctets();
    }

    private void askAllOctets() {
        for (int i = -1; i <= plain.told().length() && !failed; i++) {
            askOctet(i);
        }
    }

    private void askOctet(int i) {
        due("octet(" + i + ")", real.octet(i), plain.octet(i));
    }

    private void askChosen(int room) {
        due("chosen(" + room + ")", real.chosen(room), plain.chosen(room));
    }

    private void askWorth(int n) {
        due("worth(" + n + ")", real.worth(n), plain.worth(n));
    }

    private void feedAndRead() {
        String text = someText();
        int length = Math.min(text.length(), 120);
        for (int at = 0; at < length; at += 20) {
            feed(text, at);
        }
        int bytes = random.nextInt(4) == 0 ? near(0, plain.look(9)) : Math.min(length, plain.look(9));
        due("read(" + bytes + ")", real.read(bytes), plain.read(bytes));
        due("look(10)", real.look(10), plain.look(10));
        due("look(9)", real.look(9), plain.look(9));
    }

    private void feed(String text, int at) {
        byte[] all = text.getBytes(StandardCharsets.ISO_8859_1);
        int[] five = new int[5];
        for (int i = 0; i < 20; i++) {
            int octet = at + i < all.length ? all[at + i] & 255 : random.nextInt(256);
            five[i / 4] |= octet << (24 - i % 4 * 8);
        }
        String call = "feed(" + five[0] + ", " + five[1] + ", " + five[2] + ", " + five[3] + ", " + five[4] + ")";
        due(call, real.feed(five[0], five[1], five[2], five[3], five[4]), plain.feed(five));
    }

    /** A tale of moves that may follow now, spoilt at a place now and then. */
    private String someText() {
        StringBuilder text = new StringBuilder();
        int number = plain.look(5) + 1;
        int tokens = 1 + random.nextInt(10);
        for (int i = 0; i < tokens; i++) {
            text.append(i > 0 ? " " : "");
            if (random.nextBoolean()) {
                text.append(number + i + (random.nextInt(20) == 0 ? 1 : 0)).append('.');
            }
            text.append("abcd".charAt(random.nextInt(plain.look(0))));
            text.append((char) ('1' + random.nextInt(plain.look(1))));
            for (int signs = random.nextInt(4); signs > 0; signs--) {
                text.append(new String[] {"#", "!", "?", "=", "+7", "+12", "+09", "*a1", "*d4"}[random.nextInt(9)]);
            }
        }
        String odd = "0123456789abcde.#+!?*= x\0\u00ff";
        while (random.nextInt(3) == 0) {
            int at = random.nextInt(text.length());
            char sign = odd.charAt(random.nextInt(odd.length()));
            switch (random.nextInt(3)) {
                case 0: text.setCharAt(at, sign); break;
                case 1: text.insert(at, sign); break;
                default: text.append(sign); break;
            }
        }
        return text.toString();
    }

    private void due(String call, int got, int want) {
        calls++;
        run.append(call).append(" = ").append(want).append('\n');
        if (got != want && !failed) {
            failed = true;
            wrong++;
            System.out.println(run + "^ answered " + got);
        }
    }
}
