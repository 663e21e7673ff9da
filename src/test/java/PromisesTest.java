/** Each promise of the document, with its edges and with wrong inputs. */
public final class PromisesTest extends Checks {
    public static void main(String[] args) {
        newObject();
        newGame();
        playing();
        rowsOfAllKinds();
        gravity();
        takingBack();
        depths();
        weights();
        values();
        bestMoves();
        winsAndThreats();
        forcedMoves();
        slipsAndMissedWins();
        turns();
        leaders();
        plans();
        words();
        tales();
        octets();
        chosenMoves();
        firstTwelve();
        worths();
        feeding();
        reading();
        readingSigns();
        readingEnds();
        looking();
        refusedCallsChangeNothing();
        finish("PromisesTest");
    }

    private static void newObject() {
        about("1 a new object");
        GameTeller teller = new GameTeller();
        int[] first = {3, 3, 3, 0, 0, 0, 0, 0, 3, 0, 0};
        for (int what = 0; what < first.length; what++) {
            due("look(" + what + ")", teller.look(what), first[what]);
        }
        for (int what = 0; what < 6; what++) {
            due("a weight at first", teller.look(60 + what), 1);
        }
        due("no byte told", teller.octet(0), -1);
        due("NONE", GameTeller.NONE, -1);
    }

    private static void newGame() {
        about("2 game");
        for (int w = 1; w <= 5; w++) {
            for (int h = 1; h <= 5; h++) {
                for (int k = 1; k <= 5; k++) {
                    boolean allowed = w >= 2 && w <= 4 && h >= 2 && h <= 4 && k >= 2 && k <= Math.max(w, h);
                    boolean answer = new GameTeller().game(w, h, k, false, true);
                    due("game(" + w + ", " + h + ", " + k + ")", answer, allowed && k <= 4);
                }
            }
        }
        due("huge", new GameTeller().game(Integer.MAX_VALUE, 3, 3, false, false), false);
        due("negative", new GameTeller().game(3, Integer.MIN_VALUE, 3, false, false), false);
        GameTeller teller = threeByThree(0, 3, 1, 4, 2);
        due("ended", teller.look(6), 1);
        due("game", teller.game(2, 4, 4, true, true), true);
        int[] state = {2, 4, 4, 1, 1, 0, 0, 0};
        for (int what = 0; what < state.length; what++) {
            due("look(" + what + ")", teller.look(what), state[what]);
        }
        due("no stones", teller.look(40), 2);
        GameTeller anew = new GameTeller();
        due("value of the old game", anew.value(0, 3), 0);
        anew.game(2, 2, 2, false, true);
        due("value of the new game", anew.value(0, 3), -1);
    }

    private static void playing() {
        about("3 play");
        GameTeller teller = new GameTeller();
        due("below the cells", teller.play(-1), -1);
        due("behind the cells", teller.play(9), -1);
        due("far below", teller.play(Integer.MIN_VALUE), -1);
        due("far behind", teller.play(Integer.MAX_VALUE), -1);
        due("the last cell", teller.play(8), 1);
        due("a taken cell", teller.play(8), -1);
        due("the first cell", teller.play(0), 2);
        due("whose stones", teller.look(48) * 10 + teller.look(40), 1);
        GameTeller full = threeByThree(0, 1, 2, 4, 3, 5, 7, 6, 8);
        due("nobody won", full.look(6), 3);
        due("nobody's turn", full.look(7), -1);
        due("behind the end", full.play(0), -1);
        GameTeller lastWins = threeByThree(0, 1, 2, 3, 5, 4, 7, 6, 8);
        due("a row by the last cell", lastWins.look(6), 1);
    }

    private static void rowsOfAllKinds() {
        about("3 play");
        due("a slant row up", threeByThree(0, 1, 4, 2, 8).look(6), 1);
        due("a slant row down", threeByThree(2, 0, 4, 1, 6).look(6), 1);
        due("an upright row", threeByThree(1, 0, 4, 2, 7).look(6), 1);
        due("player 1", threeByThree(0, 3, 1, 4, 8, 5).look(6), 2);
        due("round the edge is no row", threeByThree(2, 0, 3, 7, 4).look(6), 0);
        due("slant round the edge is no row", of(4, 4, 2, false, false, 3, 0, 8).look(6), 0);
        due("slant round the other edge is no row", of(4, 4, 2, false, false, 4, 15, 3).look(6), 0);
        due("narrow: round the edge is no row", of(2, 3, 2, false, false, 1, 4, 2).look(6), 1);
        due("narrow: two apart is no row", of(2, 4, 2, false, false, 0, 7, 4).look(6), 0);
        due("four", of(4, 4, 4, false, false, 0, 1, 5, 2, 10, 3, 15).look(6), 1);
        due("three of four", of(4, 4, 4, false, false, 0, 1, 5, 2, 10, 3).look(6), 0);
        due("the gap filled", of(4, 2, 4, false, false, 0, 4, 1, 5, 3, 6, 2).look(6), 1);
        due("the first of four filled", of(4, 2, 4, false, false, 1, 4, 2, 5, 3, 6, 0).look(6), 1);
        due("the top of four filled", of(2, 4, 4, false, false, 0, 1, 2, 3, 4, 5, 6).look(6), 1);
        due("the second of four filled", of(4, 2, 4, false, false, 0, 4, 3, 5, 2, 6, 1).look(6), 1);
        due("more than K", of(4, 2, 3, false, false, 0, 4, 1, 5, 3, 7, 2).look(6), 1);
        due("rows lose: player 0", of(3, 3, 3, false, true, 0, 3, 1, 4, 2).look(6), 2);
        due("rows lose: player 1", of(3, 3, 3, false, true, 0, 3, 1, 4, 8, 5).look(6), 1);
    }

    private static void gravity() {
        about("3 play");
        GameTeller teller = of(3, 2, 3, true, false);
        due("in the air", teller.play(3), -1);
        due("the lowest", teller.play(0), 1);
        due("on top", teller.play(3), 2);
        due("above the board", teller.play(6), -1);
        due("another column in the air", teller.play(4), -1);
        GameTeller free = of(3, 2, 3, false, false);
        due("no gravity", free.play(3), 1);
    }

    private static void takingBack() {
        about("4 back");
        GameTeller teller = new GameTeller();
        due("none", teller.back(), -1);
        playAll(teller, 0, 3, 1, 4, 2);
        due("found before", teller.found(5, WIN), 1);
        due("back", teller.back(), 4);
        due("it goes on", teller.look(6), 0);
        due("the turn", teller.look(7), 0);
        due("the cell is free", teller.look(42), 2);
        due("no move 5", teller.look(24), -1);
        due("another move", teller.play(8), 5);
        due("found anew", teller.found(5, WIN), 0);
        due("missed anew", teller.found(5, MISSED), 1);
        due("value", teller.value(5, 1), 1);
        teller.back();
        teller.play(5);
        due("value anew", teller.value(5, 1), 0);
        due("threat anew", teller.found(5, THREAT), 1);
        for (int left = 4; left >= 0; left--) {
            due("back", teller.back(), left);
        }
        due("none again", teller.back(), -1);
        due("value anew", teller.value(0, 5), 0);
    }

    private static void depths() {
        about("5 depth");
        GameTeller teller = threeByThree(0, 3, 1, 2);
        int[] wrongOnes = {0, 5, -1, Integer.MAX_VALUE, Integer.MIN_VALUE};
        for (int d : wrongOnes) {
            due("depth(" + d + ")", teller.depth(d), false);
        }
        due("D stays", teller.look(8), 3);
        due("leads by 3", teller.leader(4), 0);
        due("found by 3", teller.found(4, TURN), 1);
        for (int d = 1; d <= 4; d++) {
            due("depth(" + d + ")", teller.depth(d), true);
            due("look(8)", teller.look(8), d);
            due("leads by " + d, teller.leader(4), d < 3 ? 2 : 0);
            due("found by " + d, teller.found(4, TURN), d == 3 ? 1 : 0);
            due("by 4 it is seen a move earlier", teller.found(3, TURN), d == 4 ? 1 : 0);
        }
        teller.game(3, 3, 3, false, false);
        due("a new game leaves D", teller.look(8), 4);
    }

    private static void weights() {
        about("6 weight");
        GameTeller teller = new GameTeller();
        due("no such kind", teller.weight(6, 1), false);
        due("no such kind", teller.weight(-1, 1), false);
        due("too heavy", teller.weight(0, 100), false);
        due("below 0", teller.weight(0, -1), false);
        due("far off", teller.weight(Integer.MAX_VALUE, Integer.MIN_VALUE), false);
        for (int what = 0; what < 6; what++) {
            due("stays", teller.look(60 + what), 1);
            due("the heaviest", teller.weight(what, 99 - what), true);
            due("told", teller.look(60 + what), 99 - what);
        }
        due("the lightest", teller.weight(5, 0), true);
        due("told", teller.look(65), 0);
        teller.game(2, 2, 2, false, false);
        due("a new game leaves weights", teller.look(60), 99);
    }

    private static void values() {
        about("7 value");
        GameTeller teller = threeByThree(0, 3, 1, 2, 4, 8);
        int[] byDepth = {0, 1, 1, 1, 1, 1};
        for (int d = 0; d < byDepth.length; d++) {
            due("value(6, " + d + ")", teller.value(6, d), byDepth[d]);
        }
        int[] lostByDepth = {0, 0, -1, -1, -1, -1};
        for (int d = 0; d < lostByDepth.length; d++) {
            due("value(5, " + d + ")", teller.value(5, d), lostByDepth[d]);
        }
        due("two threats ahead", teller.value(4, 2) * 10 + teller.value(4, 3), 1);
        due("at the start", teller.value(0, 5), 0);
        due("no such n", teller.value(7, 1), -2);
        due("no such n", teller.value(-1, 1), -2);
        due("no such depth", teller.value(0, -1), -2);
        due("no such depth", teller.value(0, 6), -2);
        due("far off", teller.value(Integer.MIN_VALUE, Integer.MAX_VALUE), -2);
        teller.play(7);
        for (int d = 0; d <= 5; d++) {
            due("lost at the end", teller.value(7, d), -1);
        }
        GameTeller losing = of(2, 2, 2, false, true, 0, 1, 2);
        due("rows lose: won at the end", losing.value(3, 0), 1);
        due("rows lose: all moves lose", losing.value(2, 1), -1);
        due("rows lose: deep enough", losing.value(0, 3), -1);
        due("rows lose: not deep enough", losing.value(0, 2), 0);
        due("nobody", threeByThree(0, 1, 2, 4, 3, 5, 7, 6, 8).value(9, 5), 0);
        due("a full board behind the last move", threeByThree(0, 1, 2, 4, 3, 5, 7, 6).value(8, 5), 0);
        GameTeller four = of(4, 4, 3, false, false);
        due("4 by 4: not by 4", four.value(0, 4), 0);
        due("4 by 4: wins by 5", four.value(0, 5), 1);
    }

    private static void bestMoves() {
        about("8 best");
        GameTeller teller = threeByThree(0, 3, 1, 2, 4, 8);
        due("the lowest of two wins", teller.best(6, 1), 7);
        due("all lose: the lowest", teller.best(5, 2), 5);
        due("two threats", teller.best(4, 3), 4);
        due("nothing seen: the lowest", teller.best(4, 1), 4);
        due("the answer to a threat", teller.best(3, 2), 2);
        due("by 1 the threat is not seen", teller.best(3, 1), 2);
        due("at the start", teller.best(0, 5), 0);
        GameTeller above = threeByThree(6, 0, 7);
        due("the answer is not the lowest", above.best(3, 2), 8);
        due("by 1 it is not seen", above.best(3, 1), 1);
        due("rows lose: the lowest that makes none", of(3, 3, 2, false, true, 1, 8).best(2, 1), 6);
        due("cell 0 alone is left", threeByThree(8, 7, 6, 4, 5, 3, 1, 2).best(8, 1), 0);
        due("no such depth", teller.best(0, 0), -1);
        due("no such depth", teller.best(0, 6), -1);
        due("no such n", teller.best(7, 1), -1);
        due("no such n", teller.best(-1, 1), -1);
        teller.play(7);
        due("ended", teller.best(7, 1), -1);
        due("before the end", teller.best(6, 1), 7);
        due("rows lose", of(2, 2, 2, false, true, 0, 1).best(2, 1), 2);
        due("rows lose: avoid the row", of(3, 3, 2, false, true, 0, 1).best(2, 1), 2);
        due("gravity", of(3, 3, 3, true, false, 0, 3, 1, 4).best(4, 1), 2);
        due("gravity: blocks on top", of(3, 3, 3, true, false, 0, 1, 3, 2).best(4, 1), 6);
    }

    private static void winsAndThreats() {
        about("9 found");
        GameTeller teller = threeByThree(0, 3, 1, 2, 4, 8, 7);
        int[] threats = {0, 0, 1, 0, 2, 1, 0};
        for (int n = 1; n <= 7; n++) {
            due("WIN of " + n, teller.found(n, WIN), n == 7 ? 1 : 0);
            due("THREAT of " + n, teller.found(n, THREAT), threats[n - 1]);
        }
        due("no such move", teller.found(0, WIN), -1);
        due("no such move", teller.found(8, WIN), -1);
        due("no such kind", teller.found(1, -1), -1);
        due("no such kind", teller.found(1, 6), -1);
        due("far off", teller.found(Integer.MAX_VALUE, Integer.MIN_VALUE), -1);
        due("many threats", of(4, 4, 2, false, false, 9, 0, 15, 10, 2).found(5, THREAT), 11);
        due("gravity: in the air is no threat", of(3, 2, 2, true, false, 1).found(1, THREAT), 3);
        due("gravity: on the floor", of(3, 3, 3, true, false, 0, 3, 1).found(3, THREAT), 1);
        due("rows lose: no win", of(2, 2, 2, false, true, 0, 1, 2).found(3, WIN), 0);
        due("rows lose: no threat", of(3, 3, 2, false, true, 4).found(1, THREAT), 0);
        due("nobody: no win", threeByThree(0, 1, 2, 4, 3, 5, 7, 6, 8).found(9, WIN), 0);
    }

    private static void forcedMoves() {
        about("9 found");
        GameTeller teller = threeByThree(0, 3, 1, 2, 4, 8, 7);
        for (int n = 1; n <= 7; n++) {
            due("FORCED of " + n, teller.found(n, FORCED), n == 4 ? 1 : 0);
        }
        teller.depth(1);
        due("by 1 no answer is seen", teller.found(4, FORCED), 0);
        teller.depth(2);
        due("by 2 it is", teller.found(4, FORCED), 1);
        GameTeller slip = threeByThree(0, 3, 1, 8);
        due("not the forced one", slip.found(4, FORCED), 0);
        GameTeller last = threeByThree(0, 1, 2, 4, 3, 5, 7, 6, 8);
        due("only one move there was", last.found(9, FORCED), 0);
        GameTeller losing = of(2, 3, 2, false, true, 0, 5, 4);
        due("rows lose, no other way by 1: 1, 2 and 3 touch 0", losing.found(3, FORCED), 0);
        losing.depth(1);
        due("rows lose, seen by 1", losing.found(3, FORCED), 1);
    }

    private static void slipsAndMissedWins() {
        about("9 found");
        GameTeller teller = threeByThree(0, 3, 1, 8);
        due("a slip from nothing to a loss", teller.found(4, SLIP), 1);
        due("missed nothing", teller.found(4, MISSED), 0);
        GameTeller missing = threeByThree(0, 3, 1, 2, 4, 8, 5);
        due("a slip from a win to nothing", missing.found(7, SLIP), 1);
        due("one win missed", missing.found(7, MISSED), 1);
        due("winning misses nothing", threeByThree(0, 3, 1, 2, 4, 8, 7).found(7, MISSED), 0);
        GameTeller twice = threeByThree(0, 2, 1, 5, 3, 4);
        due("a slip from a win to a loss", twice.found(6, SLIP), 2);
        GameTeller worst = threeByThree(0, 3, 1, 4, 6);
        due("player 0 slips by two", worst.found(5, SLIP), 2);
        due("missed once", worst.found(5, MISSED), 1);
        GameTeller two = threeByThree(0, 3, 4, 2, 1, 6, 5);
        due("two wins missed", two.found(7, MISSED), 2);
        GameTeller losing = of(2, 2, 2, false, true, 0, 1, 2);
        due("rows lose: nothing is missed", losing.found(2, MISSED), 0);
        due("rows lose: no slip where all lose", losing.found(3, SLIP), 0);
    }

    private static void turns() {
        about("9 found");
        GameTeller teller = threeByThree(0, 3, 1, 2, 4, 8, 7);
        for (int n = 1; n <= 7; n++) {
            due("TURN of " + n, teller.found(n, TURN), n == 4 ? 1 : 0);
        }
        GameTeller losing = of(2, 2, 2, false, true, 0, 1, 2);
        due("the first move needs none before it", losing.found(1, TURN), 1);
        due("it leads on", losing.found(2, TURN), 0);
        GameTeller both = threeByThree(0, 3, 1, 4, 6);
        due("from one leader to the other", both.leader(4) * 10 + both.leader(5), 1);
        due("turned by the slip", both.found(5, TURN), 1);
        due("what came before did not last", both.found(4, TURN), 0);
        both.back();
        due("without it the one before turned", both.found(4, TURN), 1);
        GameTeller none = threeByThree(0, 1, 2, 4, 3, 5, 7, 6, 8);
        for (int n = 1; n <= 9; n++) {
            due("nobody led in the end", none.found(n, TURN), 0);
        }
    }

    private static void leaders() {
        about("10 leader");
        GameTeller teller = threeByThree(0, 3, 1, 2, 4, 8, 7);
        int[] leaders = {2, 2, 2, 2, 0, 0, 0, 0};
        for (int n = 0; n <= 7; n++) {
            due("leader(" + n + ")", teller.leader(n), leaders[n]);
        }
        due("no such n", teller.leader(8), -1);
        due("no such n", teller.leader(-1), -1);
        due("far off", teller.leader(Integer.MIN_VALUE), -1);
        due("player 1", threeByThree(0, 3, 1, 4, 8, 5).leader(6), 1);
        due("rows lose", of(2, 2, 2, false, true).leader(0), 1);
    }

    private static void plans() {
        about("11 plan");
        GameTeller teller = new GameTeller();
        due("from nothing", teller.plan(0) * 10 + teller.plan(1), 33);
        playAll(teller, 0, 3, 1);
        due("player 0", teller.plan(0), 1);
        due("player 1", teller.plan(1), 2);
        due("no such player", teller.plan(2), -1);
        due("no such player", teller.plan(-1), -1);
        GameTeller ended = threeByThree(0, 3, 1, 4, 2);
        due("ended", ended.plan(0) + ended.plan(1), -2);
        due("no line is left", threeByThree(0, 1, 2, 4, 3, 5, 7, 6).plan(0), -1);
        due("four", of(4, 4, 4, false, false).plan(1), 4);
        due("rows lose is not asked", of(3, 3, 3, false, true, 0, 3, 1).plan(0), 1);
        GameTeller falling = of(4, 2, 4, true, false, 0, 4);
        due("gravity: the floor", falling.plan(0), 3);
        due("gravity: more than 4", falling.plan(1), -1);
        due("a slant lacks one", of(3, 3, 3, false, false, 0, 1, 4, 2).plan(0), 1);
        due("gravity: and one under it", of(3, 3, 3, true, false, 0, 1, 4, 2).plan(0), 2);
        due("gravity: an upright one needs nothing under it", of(4, 4, 4, true, false, 0, 4).plan(1), 4);
    }

    private static void words() {
        about("12 words");
        GameTeller teller = threeByThree(0, 3, 1, 2, 4, 8, 7);
        due("words", wordsOf(teller, 1, 1), "1.a1");
        due("words", wordsOf(teller, 3, 1), "3.b1+1");
        due("words", wordsOf(teller, 4, 1), "4.c1!=");
        due("by level 0", wordsOf(teller, 4, 0), "4.c1");
        due("words", wordsOf(teller, 7, 0), "7.b3#");
        due("no such move", teller.words(0, 0), -1);
        due("no such move", teller.words(8, 0), -1);
        due("no such level", teller.words(1, 2), -1);
        due("no such level", teller.words(1, -1), -1);
        due("what was told stays", teller.octet(0), '7');
        GameTeller worst = threeByThree(0, 3, 1, 4, 6);
        due("all but # and !", wordsOf(worst, 5, 1), "5.a3+1??*c1=");
        due("by level 0", wordsOf(worst, 5, 0), "5.a3+1*c1");
        GameTeller two = threeByThree(0, 3, 4, 2, 1, 6, 5);
        due("the lowest cell missed", wordsOf(two, 7, 0), "7.c2+2*b3");
        GameTeller many = of(4, 4, 2, false, false, 9, 0, 15, 10, 2);
        due("an amount of two digits", wordsOf(many, 5, 0), "5.c1+11*a2");
        GameTeller high = of(4, 4, 4, false, false, 15, 12, 3);
        due("the far corner", wordsOf(high, 1, 1), "1.d4");
        due("a letter by the column", wordsOf(high, 2, 1), "2.a4");
        due("a digit by the row", wordsOf(high, 3, 1), "3.d1");
    }

    private static void tales() {
        about("13 tale");
        GameTeller teller = threeByThree(0, 3, 1, 2, 4, 8, 7);
        due("all", taleOf(teller, 1), "1.a1 2.a2 3.b1+1 4.c1!= 5.b2+2 6.c3+1 7.b3#");
        due("level 0", taleOf(teller, 0), "1.a1 2.a2 3.b1+1 4.c1 5.b2+2 6.c3+1 7.b3#");
        due("no such level", teller.tale(2), -1);
        due("no such level", teller.tale(-1), -1);
        due("what was told stays", teller.octet(40), '#');
        due("no moves", new GameTeller().tale(1), 0);
        GameTeller full = of(4, 4, 4, false, false, 0, 2, 1, 3, 6, 4, 7, 5, 8, 10, 9, 11, 14, 12, 15, 13);
        due("sixteen moves end", full.look(6), 3);
        String tale = taleOf(full, 0);
        due("numbers of two digits", tale.contains(" 10.c3") && tale.endsWith(" 16.b4"), true);
    }

    private static void octets() {
        about("14 octet");
        GameTeller teller = threeByThree(0, 3);
        due("nothing told", teller.octet(0), -1);
        due("words", teller.words(2, 1), 4);
        due("the first", teller.octet(0), '2');
        due("the last", teller.octet(3), '2');
        due("behind it", teller.octet(4), -1);
        due("ahead of it", teller.octet(-1), -1);
        due("far off", teller.octet(Integer.MAX_VALUE), -1);
        due("far off", teller.octet(Integer.MIN_VALUE), -1);
        teller.chosen(200);
        teller.play(1);
        teller.back();
        due("other calls leave it", teller.octet(2), 'a');
        teller.game(4, 4, 4, false, false);
        due("a new game leaves it", teller.octet(0), '2');
        due("a tale of nothing", teller.tale(0), 0);
        due("is told", teller.octet(0), -1);
    }

    private static void chosenMoves() {
        about("15 chosen");
        GameTeller teller = threeByThree(0, 3, 1, 2, 4, 8, 7);
        // Worths 1 2 2 1 1 of moves 3 to 7, in 6 6 6 6 5 bytes.
        int[][] byRoom = {{0, 0}, {4, 0}, {5, 64}, {6, 8}, {11, 8}, {12, 72}, {13, 24}, {18, 24}, {19, 88},
            {20, 88}, {200, 124}};
        for (int[] pair : byRoom) {
            due("chosen(" + pair[0] + ")", teller.chosen(pair[0]), pair[1]);
        }
        due("one must go: of moves 3 and 6 the later", teller.chosen(32), 124 - 32);
        due("all", teller.chosen(33), 124);
        due("no such room", teller.chosen(-1), -1);
        due("no such room", teller.chosen(201), -1);
        due("far off", teller.chosen(Integer.MAX_VALUE), -1);
        teller.weight(WIN, 99);
        due("the dearest first", teller.chosen(6), 64);
        for (int what = 0; what < 6; what++) {
            teller.weight(what, 0);
        }
        due("nothing is worth a byte", teller.chosen(200), 0);
        due("no moves", new GameTeller().chosen(200), 0);
        due("the first move", of(2, 2, 2, false, true, 0).chosen(200), 1);
    }

    private static void firstTwelve() {
        about("15 chosen");
        GameTeller teller = of(4, 4, 3, false, false, 4, 2, 5, 8, 13, 1, 0, 7, 3, 9, 15, 14, 12, 6, 11);
        for (int n = 1; n <= 15; n++) {
            due("worth of " + n, teller.worth(n) > 0, n >= 3);
        }
        due("the thirteenth is left out", teller.chosen(200), (1 << 14) - 4);
        for (int what = 0; what < 6; what++) {
            teller.weight(what, what == MISSED ? 99 : 0);
        }
        int bits = 0;
        for (int n = 1; n <= 15; n++) {
            bits |= teller.found(n, MISSED) > 0 ? 1 << (n - 1) : 0;
        }
        due("those without worth don't count", teller.chosen(200), bits);
        due("the last is among them", bits >> 14 & 1, 1);
    }

    private static void worths() {
        about("16 worth");
        GameTeller teller = threeByThree(0, 3, 1, 2, 4, 8, 7);
        int[] worths = {0, 0, 1, 2, 2, 1, 1};
        for (int n = 1; n <= 7; n++) {
            due("worth(" + n + ")", teller.worth(n), worths[n - 1]);
        }
        teller.weight(THREAT, 10);
        teller.weight(TURN, 7);
        teller.weight(FORCED, 0);
        due("an amount times its weight", teller.worth(5), 20);
        due("by weights", teller.worth(4), 7);
        due("no such move", teller.worth(0), -1);
        due("no such move", teller.worth(8), -1);
        due("far off", teller.worth(Integer.MIN_VALUE), -1);
        GameTeller worst = threeByThree(0, 3, 1, 4, 6);
        worst.weight(SLIP, 5);
        worst.weight(MISSED, 30);
        due("a threat, a slip of two, one missed, a turn", worst.worth(5), 42);
    }

    private static void feeding() {
        about("17 feed");
        GameTeller teller = new GameTeller();
        for (int bytes = 20; bytes <= 120; bytes += 20) {
            due("feed", teller.feed(-1, 0, 0, 0, 0), bytes);
            due("look(9)", teller.look(9), bytes);
        }
        due("full", teller.feed(0, 0, 0, 0, 0), -1);
        due("stays", teller.look(9), 120);
        due("no move in it", teller.read(120), 0);
        due("empty", teller.look(9), 0);
        due("feed", teller.feed(0x61312062, 0x31206331, 0x20613220, 0x62322063, 0x32206133), 20);
        due("feed", teller.feed(0x20623320, 0x63330000, 0, 0, 0), 40);
        due("all bytes in their order", teller.read(26), 7);
        due("the game is over then", teller.look(6), 1);
        due("cells in their order", teller.look(26), 6);
    }

    private static void reading() {
        about("18 read");
        GameTeller teller = new GameTeller();
        due("nothing there", teller.read(1), -1);
        due("no bytes", teller.read(0), 0);
        due("below 0", teller.read(-1), -1);
        feedText(teller, "a1 b1");
        due("more than there is", teller.read(21), -1);
        due("the tape stays", teller.look(9), 20);
        due("far off", teller.read(Integer.MAX_VALUE), -1);
        due("far off", teller.read(Integer.MIN_VALUE), -1);
        due("the first bytes", teller.read(4), 1);
        due("the move that is not whole", teller.look(10), 3);
        due("the tape is empty", teller.look(9), 0);
        feedText(teller, "b1#x");
        due("what is behind the first bytes is not asked", teller.read(2), 1);
        due("to their end", teller.look(10), 2);
        teller.back();
        due("with numbers", readText(teller, "2.b1 3.c1 4.a2"), 3);
        due("all are set", teller.look(10), 14);
        due("with and without", readText(teller, "b2 6.c2 a3"), 3);
        due("the cells", teller.look(24) * 100 + teller.look(25) * 10 + teller.look(26), 456);
        String tale = taleOf(threeByThree(0, 3, 1, 2, 4, 8, 7), 1);
        GameTeller again = new GameTeller();
        due("a tale", readText(again, tale), 7);
        due("told again", taleOf(again, 1), tale);
        GameTeller full = of(4, 4, 4, false, false, 0, 1, 2, 3, 5, 4, 7, 6, 8);
        due("numbers of two digits", readText(full, "10.b3 11.c3 d3 13.b4"), 4);
        due("its last cell", full.look(32), 13);
    }

    private static void readingSigns() {
        about("18 read");
        String[] good = {"a1", "1.a1", "a1#", "a1###", "a1=?!#", "a1+1", "a1+12", "a1+0", "a1+00+9", "a1*a1", "a1*d4",
            "1.a1*d4*a1+99??!!==##", "a1+1*b2", "a1+9#"};
        for (String text : good) {
            GameTeller teller = new GameTeller();
            due("'" + text + "'", readText(teller, text), 1);
            due("'" + text + "' to its end", teller.look(10), text.length());
        }
        String[] bad = {"", " ", " a1", "a", "1", "1.", ".a1", "1a1", "01.a1", "2.a1", "0.a1", "10.a1", "1..a1", "1. a1",
            "A1", "e1", "a0", "a5", "d1", "a4", "a1x", "a1.", "a1+", "a1+x", "a1+123", "a1*", "a1*a", "a1*e1", "a1*a5",
            "a1*a0", "a1*1a", "a1a", "a12", "a1#1", "a1\0", "a1\t", "\u00e11", "#a1", "1.#a1", "11.a1", "a1*+1"};
        for (String text : bad) {
            GameTeller teller = new GameTeller();
            due("'" + text + "'", readText(teller, text), 0);
            due("'" + text + "' from its start", teller.look(10), 0);
            due("'" + text + "' sets nothing", teller.look(5), 0);
        }
    }

    private static void readingEnds() {
        about("18 read");
        String[] texts = {"a1 b1 a1", "a1 b1  c1", "a1 b1 ", "a1 b1 4.c1", "a1 b1 c1? c2x", "a1 a2 b1 b2 c1 c2", "a1,b1"};
        int[] moves = {2, 2, 2, 2, 3, 5, 0};
        int[] places = {6, 6, 6, 6, 10, 15, 0};
        for (int i = 0; i < texts.length; i++) {
            GameTeller teller = new GameTeller();
            due("'" + texts[i] + "'", readText(teller, texts[i]), moves[i]);
            due("'" + texts[i] + "' ends at", teller.look(10), places[i]);
        }
        GameTeller falling = of(3, 3, 3, true, false);
        due("gravity", readText(falling, "a1 a2 b2"), 2);
        due("what is no move now", falling.look(10), 6);
        GameTeller wide = of(4, 4, 4, false, false);
        due("the far corner", readText(wide, "d4 a4 d1"), 3);
        due("its cell", wide.look(20), 15);
        due("found anew behind what was read", wide.found(3, SLIP), 0);
        GameTeller replay = threeByThree(0, 3, 1, 4, 2);
        due("won", replay.found(5, WIN), 1);
        replay.back();
        due("read instead", readText(replay, "5.c3"), 1);
        due("found anew", replay.found(5, WIN) * 10 + replay.found(5, MISSED), 1);
    }

    private static void looking() {
        about("19 look");
        GameTeller teller = of(4, 3, 3, true, true, 1, 5, 0);
        int[] state = {4, 3, 3, 1, 1, 3, 0, 1, 3, 0, 0};
        for (int what = 0; what < state.length; what++) {
            due("look(" + what + ")", teller.look(what), state[what]);
        }
        int[] cells = {1, 5, 0};
        for (int i = 0; i < 20; i++) {
            due("look(" + (20 + i) + ")", teller.look(20 + i), i < 3 ? cells[i] : -1);
        }
        int[] stones = {0, 0, 2, 2, 2, 1, 2, 2, 2, 2, 2, 2};
        for (int i = 0; i < 20; i++) {
            due("look(" + (40 + i) + ")", teller.look(40 + i), i < 12 ? stones[i] : -1);
        }
        for (int i = 0; i < 20; i++) {
            due("look(" + (60 + i) + ")", teller.look(60 + i), i < 6 ? 1 : -1);
        }
        int[] others = {-1, 11, 12, 19, 66, 1000, Integer.MAX_VALUE, Integer.MIN_VALUE};
        for (int what : others) {
            due("look(" + what + ")", teller.look(what), -1);
        }
        GameTeller full = of(4, 4, 4, false, false, 0, 2, 1, 3, 6, 4, 7, 5, 8, 10, 9, 11, 14, 12, 15, 13);
        due("the last move", full.look(35), 13);
        due("the last cell", full.look(55), 0);
        due("the last stone", full.look(53), 1);
        due("none behind it", full.look(36) + full.look(56), -2);
        due("nobody", full.look(6), 3);
        due("the turn at the end", full.look(7), -1);
    }

    private static void refusedCallsChangeNothing() {
        about("refused calls");
        GameTeller teller = threeByThree(0, 3, 1);
        feedText(teller, "a1");
        teller.words(3, 1);
        teller.game(5, 3, 3, true, true);
        teller.play(0);
        teller.play(9);
        teller.depth(5);
        teller.weight(0, 100);
        teller.words(4, 0);
        teller.words(1, 2);
        teller.tale(2);
        teller.read(21);
        int[] state = {3, 3, 3, 0, 0, 3, 0, 1, 3, 20, 0};
        for (int what = 0; what < state.length; what++) {
            due("look(" + what + ")", teller.look(what), state[what]);
        }
        due("weights", teller.look(60), 1);
        due("told", teller.octet(0) * 10 + teller.octet(6), '3' * 10 - 1);
    }
}
