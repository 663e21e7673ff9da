import java.util.Arrays;

/** The tape and TO READ at their bounds: promises 17 and 18, and what look(9) and look(10) tell of them. */
public final class TapeBoundsTest extends Checks {
    private static final int NONE = -1;
    private static final String[] OUTSIDE_LETTERS = {"`", "e", "A", "D", "\0", "\u00e1", "1"};
    private static final String[] OUTSIDE_DIGITS = {"0", "5", "9", "/", "\0", "\u00b1", "a"};

    public static void main(String[] args) {
        fedToTheLastByte();
        highestByteFirst();
        bytesOfAllKinds();
        fedAgainWhenRead();
        readToTheLastByte();
        refusedReadLeavesTape();
        readEmptiesTape();
        readOfNothing();
        fromFirstByteOn();
        numberOfTheNextMove();
        numbersOfTwoDigits();
        numberAndDotBothOrNeither();
        letterAndDigitMust();
        signsInAnyNumber();
        digitsBehindPlus();
        cellBehindStar();
        blankBetweenTwo();
        endsWithinBytes();
        endsBeforeUnreadable();
        endsBeforeWhatIsNoMove();
        endsWithTheGame();
        eachSetAsItIsRead();
        placeOfUnsetMove();
        finish("TapeBoundsTest");
    }

    private static String of(String sign, int times) {
        return sign.repeat(times);
    }

    /** A text is read on a new board of 3 by 3: so many moves are set, and the one that is not begins there. */
    private static void dueRead(String text, int moves, int place) {
        dueRead(new GameTeller(), text, moves, place);
    }

    private static void dueRead(GameTeller teller, String text, int moves, int place) {
        int before = teller.look(5);
        due("'" + text + "'", readText(teller, text), moves);
        due("'" + text + "' sets", teller.look(5), before + moves);
        due("'" + text + "' ends at", teller.look(10), place);
        due("'" + text + "' empties the tape", teller.look(9), 0);
    }

    private static GameTeller fed(int times) {
        GameTeller teller = new GameTeller();
        for (int i = 1; i <= times; i++) {
            due("feed", teller.feed(0, 0, 0, 0, 0), 20 * i);
        }
        return teller;
    }

    private static void fedToTheLastByte() {
        about("17: how many it has; NONE if that would be more than 120");
        for (int times = 0; times < 6; times++) {
            GameTeller teller = fed(times);
            due("bytes", teller.look(9), 20 * times);
            due("twenty more", teller.feed(-1, MIN, MAX, 0, 1), 20 * times + 20);
            due("bytes then", teller.look(9), 20 * times + 20);
        }
        GameTeller full = fed(6);
        for (int again = 0; again < 3; again++) {
            due("more than 120", full.feed(0, 0, 0, 0, 0), NONE);
            due("stays", full.look(9), 120);
        }
    }

    private static void highestByteFirst() {
        about("17: the highest of each int first, behind the tape");
        GameTeller teller = new GameTeller();
        due("feed", teller.feed(0x61312062, 0x31206331, 0x20623220, 0x61322063, 0x32206233), 20);
        due("feed behind it", teller.feed(0x20613320, 0x63333F3F, 0, 0, 0), 40);
        due("read", teller.read(28), 9);
        int[] cells = {0, 1, 2, 4, 3, 5, 7, 6, 8};
        for (int i = 0; i < cells.length; i++) {
            due("cell " + i, teller.look(20 + i), cells[i]);
        }
    }

    private static void bytesOfAllKinds() {
        about("17: bytes are those of the ints, also of ints below 0");
        String spare = "abcd1234#+!?*=. 0";
        for (int octet = 0; octet < 256; octet++) {
            boolean sign = spare.indexOf(octet) >= 0;
            if (!sign) {
                dueRead("a1" + (char) octet + " b1", 0, 0);
                dueRead((char) octet + "1", 0, 0);
                dueRead("a1 b" + (char) octet, 1, 3);
            }
        }
        GameTeller teller = new GameTeller();
        teller.feed(0x61312020, -1, MIN, 0, 0);
        due("read", teller.read(20), 1);
        due("the place", teller.look(10), 3);
    }

    private static void fedAgainWhenRead() {
        about("17: a tape that was read has room for 120 again");
        GameTeller teller = fed(6);
        due("full", teller.feed(0, 0, 0, 0, 0), NONE);
        due("read none of it", teller.read(0), 0);
        for (int bytes = 20; bytes <= 120; bytes += 20) {
            due("fed again", teller.feed(0x61310000, 0, 0, 0, 0), bytes);
        }
        due("full again", teller.feed(0, 0, 0, 0, 0), NONE);
        due("what was there is gone", teller.read(2), 1);
    }

    private static void readToTheLastByte() {
        about("18: TO READ the first n bytes; NONE: it has not so many");
        for (int times = 0; times <= 6; times++) {
            int fed = times;
            dueWithin("read(#) of " + 20 * times, 0, 20 * times, NONE, n -> fed(fed).read(n));
        }
        String moves = "a1 b1 c1 b2 a2 c2 b3 a3 ";
        String text = moves + "9.c3" + of("?", 120 - moves.length() - 4);
        due("a text as long as the tape", text.length(), 120);
        GameTeller teller = new GameTeller();
        dueRead(teller, text, 9, 120);
        due("to its last MOVE", teller.look(28), 8);
        dueRead(text.substring(0, 119) + "x", 8, moves.length());
        dueRead(text.substring(0, 119) + " ", 9, 120);
        dueRead(text.substring(0, 119) + "+", 8, moves.length());
    }

    private static void refusedReadLeavesTape() {
        about("18: NONE: it has not so many (the tape stays)");
        int[] refused = {-1, 41, 60, 120, 121, MIN, MAX};
        for (int n : refused) {
            GameTeller teller = new GameTeller();
            feedText(teller, "a1 b1 c1 a2 b2 c2 a3 b3");
            due("read(" + n + ")", teller.read(n), NONE);
            due("bytes", teller.look(9), 40);
            due("no MOVE is set", teller.look(5), 0);
            due("all of it is there", teller.read(23), 7);
            due("the game ended by it", teller.look(10), 21);
        }
        due("an empty tape", new GameTeller().read(1), NONE);
    }

    private static void readEmptiesTape() {
        about("18: the tape is empty then");
        int[] lengths = {0, 1, 2, 5, 20, 39, 40};
        for (int n : lengths) {
            GameTeller teller = new GameTeller();
            feedText(teller, "a1 b1 c1 a2 b2 c2 a3 b3");
            due("read(" + n + ") is met", teller.read(n) == NONE, false);
            due("bytes", teller.look(9), 0);
            due("nothing is left", teller.read(1), NONE);
            due("the next feed stands alone", teller.feed(0, 0, 0, 0, 0), 20);
        }
    }

    private static void readOfNothing() {
        about("18: the first 0 bytes");
        GameTeller teller = new GameTeller();
        due("of an empty tape", teller.read(0), 0);
        due("the place", teller.look(10), 0);
        dueRead(teller, "a1 b1", 2, 5);
        due("of an empty tape again", teller.read(0), 0);
        due("the place is 0 again", teller.look(10), 0);
        feedText(teller, "c1");
        due("of a tape", teller.read(0), 0);
        due("it is empty then", teller.look(9), 0);
        due("no MOVE is set", teller.look(5), 2);
    }

    private static void fromFirstByteOn() {
        about("TO READ: from its first byte on");
        dueRead("a1", 1, 2);
        dueRead(" a1", 0, 0);
        dueRead("\0a1", 0, 0);
        dueRead("", 0, 0);
        dueRead(" ", 0, 0);
    }

    private static void numberOfTheNextMove() {
        about("TO READ: the number (no 0 ahead) of the MOVE that is next");
        dueRead("1.a1", 1, 4);
        dueRead("0.a1", 0, 0);
        dueRead("2.a1", 0, 0);
        dueRead("01.a1", 0, 0);
        dueRead("001.a1", 0, 0);
        dueRead("11.a1", 0, 0);
        dueRead("-1.a1", 0, 0);
        dueRead("1.a1 2.b1 3.c1", 3, 14);
        dueRead("1.a1 1.b1", 1, 5);
        dueRead("1.a1 3.b1", 1, 5);
        dueRead("1.a1 02.b1", 1, 5);
        dueRead("a1 2.b1 c1 4.a2", 4, 15);
        GameTeller later = threeByThree(0, 3, 1);
        dueRead(later, "1.c1", 0, 0);
        dueRead(later, "3.c1", 0, 0);
        dueRead(later, "5.c1", 0, 0);
        dueRead(later, "4.c1", 1, 4);
        later.back();
        dueRead(later, "5.c1", 0, 0);
        dueRead(later, "4.c1", 1, 4);
    }

    private static GameTeller played(int moves) {
        return of(4, 4, 4, false, false, Arrays.copyOf(FULL_BOARD, moves));
    }

    private static void numbersOfTwoDigits() {
        about("TO READ: the number of a MOVE from 9 to 16");
        for (int next = 8; next <= 16; next++) {
            String name = nameOf(FULL_BOARD[next - 1], 4);
            String right = next + "." + name;
            dueRead(played(next - 1), right, 1, right.length());
            dueRead(played(next - 1), name, 1, 2);
            dueRead(played(next - 1), (next - 1) + "." + name, 0, 0);
            dueRead(played(next - 1), (next + 1) + "." + name, 0, 0);
            dueRead(played(next - 1), "0" + right, 0, 0);
            dueRead(played(next - 1), (next % 10) + "0." + name, 0, 0);
            dueRead(played(next - 1), (next + 100) + "." + name, 0, 0);
            dueRead(played(next - 1), next + name, 0, 0);
            if (next >= 10) {
                dueRead(played(next - 1), (next - 10) + "." + name, 0, 0);
                dueRead(played(next - 1), "1." + name, 0, 0);
            }
        }
        dueRead(played(8), "9.a3 10.c3 11.b3 12.d3 13.c4 14.a4 15.d4 16.b4 17.a1", 8, 47);
        dueRead(played(16), "17.a1", 0, 0);
    }

    private static void numberAndDotBothOrNeither() {
        about("TO READ: the number and a dot may stand ahead (both or neither)");
        dueRead("1.a1", 1, 4);
        dueRead("a1", 1, 2);
        dueRead("1a1", 0, 0);
        dueRead(".a1", 0, 0);
        dueRead("1..a1", 0, 0);
        dueRead("1. a1", 0, 0);
        dueRead("1.1.a1", 0, 0);
        dueRead("1 .a1", 0, 0);
        dueRead("1,a1", 0, 0);
        dueRead("1", 0, 0);
        dueRead("1.", 0, 0);
        dueRead(".", 0, 0);
    }

    private static void letterAndDigitMust() {
        about("TO READ: a letter and a digit must");
        dueRead("a", 0, 0);
        dueRead("1.a", 0, 0);
        dueRead("1.1", 0, 0);
        dueRead("1.#", 0, 0);
        dueRead("aa", 0, 0);
        dueRead("1a", 0, 0);
        dueRead("a 1", 0, 0);
        dueRead("#a1", 0, 0);
        dueRead("b1 a", 1, 3);
        for (String letter : OUTSIDE_LETTERS) {
            dueRead(of(4, 4, 4, false, false), letter + "1", 0, 0);
        }
        for (String digit : OUTSIDE_DIGITS) {
            dueRead(of(4, 4, 4, false, false), "a" + digit, 0, 0);
        }
        for (int cell = 0; cell < 16; cell++) {
            GameTeller teller = of(4, 4, 4, false, false);
            dueRead(teller, nameOf(cell, 4), 1, 2);
            due("its cell", teller.look(20), cell);
        }
    }

    private static void signsInAnyNumber() {
        about("TO READ: signs (each in any number and order, whatever is FOUND) may follow");
        dueRead("a1#!?=", 1, 6);
        dueRead("a1=?!#", 1, 6);
        dueRead("a1*b2+1#", 1, 8);
        dueRead("a1+1+2+3*a1*b1", 1, 14);
        String[] signs = {"#", "!", "?", "=", "+1", "+12", "*a1"};
        for (String sign : signs) {
            String some = "a1" + of(sign, 118 / sign.length());
            dueRead(some, 1, some.length());
            dueRead("a1" + sign + "x", 0, 0);
            dueRead("a1" + sign + " b1", 2, 5 + sign.length());
        }
        dueRead("a1#1", 0, 0);
        dueRead("a1.", 0, 0);
        dueRead("a1b1", 0, 0);
        dueRead("a12", 0, 0);
        due("a WIN that is none", readText(new GameTeller(), "a1#"), 1);
    }

    private static void digitsBehindPlus() {
        about("TO READ: + with one or two digits behind it");
        dueRead("a1+", 0, 0);
        dueRead("a1+ b1", 0, 0);
        dueRead("a1+#", 0, 0);
        dueRead("a1++1", 0, 0);
        dueRead("a1+x", 0, 0);
        dueRead("a1+/", 0, 0);
        dueRead("a1+:", 0, 0);
        dueRead("a1+1/", 0, 0);
        dueRead("a1+1:", 0, 0);
        dueRead("a1+0", 1, 4);
        dueRead("a1+9", 1, 4);
        dueRead("a1+00", 1, 5);
        dueRead("a1+99", 1, 5);
        dueRead("a1+123", 0, 0);
        dueRead("a1+12+3", 1, 7);
        dueRead("a1+1 2.b1", 2, 9);
    }

    private static void cellBehindStar() {
        about("TO READ: * with a letter and a digit");
        dueRead("a1*", 0, 0);
        dueRead("a1* b1", 0, 0);
        dueRead("a1*a", 0, 0);
        dueRead("a1*1", 0, 0);
        dueRead("a1*1a", 0, 0);
        dueRead("a1**a1", 0, 0);
        dueRead("a1*a11", 0, 0);
        dueRead("a1*a1b1", 0, 0);
        dueRead("a1*a1", 1, 5);
        dueRead("a1*d4", 1, 5);
        for (String letter : OUTSIDE_LETTERS) {
            dueRead("a1*" + letter + "1", 0, 0);
        }
        for (String digit : OUTSIDE_DIGITS) {
            dueRead("a1*a" + digit, 0, 0);
        }
    }

    private static void blankBetweenTwo() {
        about("TO READ: a blank stands between two");
        dueRead("a1 b1", 2, 5);
        dueRead("a1b1", 0, 0);
        dueRead("a1  b1", 1, 3);
        dueRead("a1,b1", 0, 0);
        dueRead("a1\tb1", 0, 0);
        dueRead("a1\nb1", 0, 0);
        dueRead("a1\0b1", 0, 0);
        dueRead("a1 ", 1, 3);
        dueRead("a1  ", 1, 3);
        dueRead("a1 b1 ", 2, 6);
        dueRead("a1 #", 1, 3);
    }

    private static void endsWithinBytes() {
        about("TO READ: what stands behind the first n bytes is not read");
        String text = "a1 2.b1+12*c1 c1";
        int[] moves = {0, 0, 1, 1, 1, 1, 1, 2, 1, 2, 2, 1, 1, 2, 2, 2, 3};
        int[] places = {0, 0, 2, 3, 3, 3, 3, 7, 3, 9, 10, 3, 3, 13, 14, 14, 16};
        for (int n = 0; n <= text.length(); n++) {
            GameTeller teller = new GameTeller();
            feedText(teller, text);
            due("read(" + n + ")", teller.read(n), moves[n]);
            due("the place behind read(" + n + ")", teller.look(10), places[n]);
        }
    }

    private static void endsBeforeUnreadable() {
        about("TO READ: it ends before the first MOVE that can't be read");
        dueRead("x a1", 0, 0);
        dueRead("a1 x b1", 1, 3);
        dueRead("a1 b1 c1x a2", 2, 6);
        dueRead("a1 b1 4.c1 a2", 2, 6);
        dueRead("a1 b1 c1+ a2", 2, 6);
        dueRead("a1 b1 c1*e1 a2", 2, 6);
    }

    private static void endsBeforeWhatIsNoMove() {
        about("TO READ: it ends before the first MOVE that is none now");
        dueRead("a1 a1 b1", 1, 3);
        dueRead("a1 b1 d1 c1", 2, 6);
        dueRead("a1 b1 a4 c1", 2, 6);
        dueRead(of(2, 4, 4, false, false), "b4 c1", 1, 3);
        dueRead(of(4, 2, 4, false, false), "d2 a3", 1, 3);
        GameTeller falling = of(3, 3, 3, true, false);
        dueRead(falling, "a2", 0, 0);
        dueRead(falling, "a1 a2 a3 a4", 3, 9);
        dueRead(falling, "b2", 0, 0);
        dueRead(falling, "b1 b2", 2, 5);
    }

    private static void endsWithTheGame() {
        about("TO READ: no MOVE is one when THE GAME has ended");
        dueRead("a1 a2 b1 b2 c1 c2", 5, 15);
        dueRead("a1 a2 b1 b2 c1", 5, 14);
        dueRead("a1 a2 b1 b2 c1#!?= ", 5, 19);
        dueRead(threeByThree(0, 3, 1, 4, 2), "c2", 0, 0);
        dueRead(of(3, 3, 3, false, true, 0, 3, 1, 4, 2), "6.c2", 0, 0);
        dueRead("a1 b1 c1 b2 a2 c2 b3 a3 c3 a1", 9, 27);
        dueRead(fullBoard(), "a1", 0, 0);
        dueRead(of(4, 4, 4, false, false, Arrays.copyOf(FULL_BOARD, 15)), "b4 a1", 1, 3);
    }

    private static void eachSetAsItIsRead() {
        about("TO READ: MOVE by MOVE, each set as it is read");
        GameTeller teller = threeByThree(4);
        dueRead(teller, "a1 c3 x", 2, 6);
        due("those ahead of the last are set", teller.look(21) * 10 + teller.look(22), 8);
        due("found of them", teller.found(3, THREAT), 0);
        due("the next is numbered on", teller.play(1), 4);
        GameTeller again = threeByThree(0, 3, 1, 4, 2);
        due("found before", again.found(5, WIN), 1);
        again.back();
        dueRead(again, "5.c3", 1, 4);
        due("found of what was read instead", again.found(5, WIN) * 10 + again.found(5, MISSED), 1);
        due("valued anew", again.value(5, 1), 1);
    }

    private static void placeOfUnsetMove() {
        about("19: 10 the place at which the MOVE begins that the latest read() did not set; 0 at first");
        GameTeller teller = new GameTeller();
        due("at first", teller.look(10), 0);
        dueRead(teller, "a1 b1", 2, 5);
        due("refused", teller.read(1), NONE);
        due("a refused one is none", teller.look(10), 5);
        teller.feed(0, 0, 0, 0, 0);
        teller.play(2);
        teller.back();
        due("nor are other calls", teller.look(10), 5);
        dueRead(teller, "", 0, 0);
        dueRead(teller, "c1 c1", 1, 3);
    }
}
