/** The document's Outcomes, and the promises 18 to 24. */
public final class BoundarySolvingTest extends Boundaries {
    private static final int[] PARTITIONS = {1, 1, 2, 3, 5, 7, 11, 15, 22, 30, 42};

    public static void main(String[] args) {
        runAll(BoundarySolvingTest.class);
    }

    /** A heap of two that can only be left as one, which can only grow again. */
    private static HeapGames endless() {
        return growing(game(".2", "2"), 2);
    }

    /** Two can be left as one, which loses, or grow to three, from which only two can be reached again. */
    private static HeapGames draw(String position) {
        return growing(game(".3", position), 4);
    }

    // ---- Outcomes

    @Sentence(at = "Outcomes", says = "The game ends when the player who is to move has no move; this player has lost in usual "
            + "play, and has won in misere play.")
    static void outcomesOfTheEnd() {
        String[] ends = {"", "p", "1+1", "1!+2", "1!p", "10"};
        for (String end : ends) {
            dueSolution("usual end " + end, game(".0", end), 0, 0, NONE, 0);
            dueSolution("misere end " + end, misere(game(".0", end)), 1, 0, NONE, 0);
        }
        dueSolution("one move before the end", game(".0", "1p"), 1, 1, 0, 1);
        dueSolution("one move before the misere end", misere(game(".0", "1p")), 0, 1, 0, 1);
        dueSolution("a bound heap without a move ends it", game(".01", "1!+2"), 0, 0, NONE, 0);
        dueSolution("a free heap without a move does not", game(".01", "1+2"), 1, 1, 0, 1);
    }

    @Sentence(at = "Outcomes", says = "The outcome of a position is 1 if the player who is to move can force to win, 0 if the "
            + "other one can force to win, and 2 otherwise (a draw, in which nobody can avoid that the game goes on without "
            + "end, or only by losing).")
    static void outcomesWonLostAndDrawn() {
        for (int size = 1; size <= 10; size++) {
            due("one after the other, " + size, size % 2, game(".3", "" + size).outcome());
            due("misere, " + size, 1 - size % 2, misere(game(".3", "" + size)).outcome());
        }
        due("nobody can avoid it", 2, endless().outcome());
        due("nobody can avoid it in misere play", 2, misere(endless()).outcome());
        due("only by losing", 2, draw("2").outcome());
        due("only by losing, one move later", 2, draw("3").outcome());
        due("one who can win does so", 1, draw("1").outcome());
        // In misere play two is won by leaving one, and three can only lead to two.
        due("misere two", 1, misere(draw("2")).outcome());
        due("misere three", 0, misere(draw("3")).outcome());
        // Ten heaps of one could only grow, but there are ten counters already.
        due("no room to grow", 0, growing(game(".2", "1+1+1+1+1+1+1+1+1+1"), 2).outcome());
    }

    @Sentence(at = "Outcomes", says = "The distance of a position with the outcome 0 or 1 is the number of moves to the end, if "
            + "the player who wins makes it as small as possible, and the other one makes it as great as possible.")
    static void outcomesDistances() {
        due("the winner takes all", 1, game("nim", "10").distance());
        due("the winner takes the shorter way", 5, game("nim", "2+2+3").distance());
        due("the loser takes the longer way", 4, game("nim", "2+2").distance());
        for (int size = 1; size <= 10; size++) {
            due("no other way with " + size, size, game(".3", "" + size).distance());
            due("misere with " + size, size, misere(game(".3", "" + size)).distance());
        }
        due("with the pass", 11, game(".3", "10p").distance());
        due("of a draw", NONE, draw("2").distance());
        // One can be taken at once, or grow to two, which would win, too, but later.
        due("the winner does not grow", 1, growing(game(".3", "1"), 2).distance());
    }

    @Sentence(at = "Outcomes", says = "A good move is one that leads to a position with the outcome 0; if there is none, one "
            + "that leads to the outcome 2; if there is none, either, any move.")
    static void outcomesGoodMoves() {
        HeapGames won = draw("1+2");
        due("to a draw", 2, won.move(0, 5));
        due("to a lost position", 0, won.move(1, 5));
        due("to a draw", 2, won.move(2, 5));
        dueSolution("one leads to 0, two to 2", won, 1, 3, 1, 1);
        HeapGames drawn = draw("2");
        due("to a won position", 1, drawn.move(0, 5));
        due("to a draw", 2, drawn.move(1, 5));
        dueSolution("one leads to 1, one to 2", drawn, 2, NONE, 1, 1);
        dueSolution("all lead to 1", game("nim", "2+2"), 0, 4, 0, 2);
        dueSolution("all lead to 0", game(".3", "1+2"), 1, 3, 0, 2);
        dueSolution("all lead to 2", endless(), 2, NONE, 0, 1);
    }

    @Sentence(at = "Outcomes", says = "The best move is, of the good moves that lead to outcome 0, one with the least distance "
            + "there;")
    static void outcomesBestOfTheWinner() {
        HeapGames game = game("nim", "2+2+3");
        due("move(0, 5)", 0, game.move(0, 5));
        due("move(0, 6)", 6, game.move(0, 6));
        due("move(4, 5)", 0, game.move(4, 5));
        due("move(4, 6)", 4, game.move(4, 6));
        dueSolution("the shorter way comes later", game, 1, 5, 4, 2);
    }

    @Sentence(at = "Outcomes", says = "if the good moves lead to 2, the first of them;")
    static void outcomesBestOfADraw() {
        // Taking the one loses, as does growing of the three; the two moves between them draw.
        HeapGames game = growing(game(".13", "1+3"), 14);
        due("move(0, 5)", 1, game.move(0, 5));
        due("move(1, 5)", 2, game.move(1, 5));
        due("move(2, 5)", 2, game.move(2, 5));
        due("move(3, 5)", 1, game.move(3, 5));
        dueSolution("the first of two draws", game, 2, NONE, 1, 2);
        dueSolution("the only draw", draw("3"), 2, NONE, 0, 1);
    }

    @Sentence(at = "Outcomes", says = "if they lead to 1, one with the greatest distance there;")
    static void outcomesBestOfTheLoser() {
        HeapGames game = game("nim", "2+2");
        due("move(0, 6)", 3, game.move(0, 6));
        due("move(1, 6)", 1, game.move(1, 6));
        due("the longer way comes first", 0, game.best());
        // Two without a move has won at once; 1+1 wins only after two moves.
        HeapGames later = misere(game(".106", "5"));
        due("move(0, 6)", 0, later.move(0, 6));
        due("move(1, 6)", 2, later.move(1, 6));
        due("the longer way comes later", 1, later.best());
    }

    @Sentence(at = "Outcomes", says = "of several the one with the least number.")
    static void outcomesBestOfSeveral() {
        HeapGames won = game(".3", "1+2");
        due("move(0, 6)", 2, won.move(0, 6));
        due("move(1, 6)", 2, won.move(1, 6));
        due("the first of the equal ways to win", 0, won.best());
        // Both 3+3 and 1+2+3 are lost after six moves more.
        HeapGames nim = game("nim", "2+3+3");
        due("move(1, 6)", 6, nim.move(1, 6));
        due("move(3, 6)", 6, nim.move(3, 6));
        dueSolution("nim 2+3+3", nim, 1, 7, 1, 2);
        HeapGames lost = game(".3", "1+3");
        due("move(0, 6)", 3, lost.move(0, 6));
        due("move(1, 6)", 3, lost.move(1, 6));
        due("the first of the equal ways to lose", 0, lost.best());
        dueSolution("taking one is as good as the pass behind it", game(".3", "10p"), 1, 11, 0, 2);
    }

    // ---- Promise 18: outcome

    @Sentence(at = "Promise 18", says = "Returns the outcome of the position.")
    static void promise18OfThePositionAtPresent() {
        HeapGames game = game("nim", "1+2");
        due("1+2", 1, game.outcome());
        game.play(1);
        due("1+1", 0, game.outcome());
        game.undo();
        due("1+2 again", 1, game.outcome());
        game.place(3);
        due("1+2+3", 0, game.outcome());
        game.setPass(true);
        due("1+2+3p", 1, game.outcome());
        game.setMisere(true);
        game.setPass(false);
        due("misere 1+2+3", 0, game.outcome());
        typed(game, "1").readPosition();
        due("misere 1", 0, game.outcome());
    }

    @Sentence(at = "Promise 18", says = "Returns the outcome of the position.")
    static void promise18ByTheRulesAtPresent() {
        String[] rules = {".7777777777", ".3", "nim", ".0", "kayles", ".31", ".7777777777", ".1", "dawson", ".7"};
        String[] positions = {"10p", "10", "1+2+3p", "5!+5", "1+1+1+1+1+1+1+1+1+1", "3+3"};
        for (String position : positions) {
            HeapGames game = game(".0", position);
            for (String rule : rules) {
                typed(game, rule).readRules();
                HeapGames fresh = game(rule, position);
                due("outcome of " + position + " by " + rule, fresh.outcome(), game.outcome());
                due("digest of " + position + " by " + rule, fresh.digest(), game.digest());
                growing(game, 1022);
                due("digest with growing", growing(fresh, 1022).digest(), game.digest());
                growing(game, 0);
            }
        }
    }

    @Sentence(at = "Promise 18", says = "Returns 0, 1 or 2.")
    static void promise18EachOfThree() {
        due("lost", 0, draw("1+1").outcome());
        due("won", 1, draw("1").outcome());
        due("drawn", 2, draw("2").outcome());
    }

    // ---- Promise 19: distance

    @Sentence(at = "Promise 19", says = "Returns the distance of the position.")
    static void promise19OfThePositionAtPresent() {
        HeapGames game = game(".3", "10");
        for (int left = 10; left > 0; left--) {
            due("distance", left, game.distance());
            game.play(0);
        }
        due("distance of the end", 0, game.distance());
        game.setDigit(2, 1);
        typed(game, "2").readPosition();
        due("distance with another digit", 1, game.distance());
    }

    @Sentence(at = "Promise 19", says = "Returns the distance; NONE if the outcome is 2.")
    static void promise19NoneForADraw() {
        due("of the end", 0, draw("").distance());
        due("of a won position", 1, draw("1").distance());
        due("of a draw", NONE, draw("2").distance());
        due("of a draw", NONE, draw("3").distance());
        due("of an endless game", NONE, endless().distance());
    }

    // ---- Promise 20: best

    @Sentence(at = "Promise 20", says = "Returns the best move.")
    static void promise20OfEachKind() {
        due("the first move", 0, game("nim", "1").best());
        due("the last taking", 9, game("nim", "10").best());
        due("the last taking before the pass", 29, game(".7777777777", "10p").best());
        due("growing", 1, draw("2").best());
        HeapGames passing = game("nim", "1+1p");
        due("the pass", 1, passing.best());
        due("it is the pass", 2, passing.move(1, 0));
    }

    @Sentence(at = "Promise 20", says = "Returns its number; NONE if there is no move.")
    static void promise20NoneWithoutAMove() {
        due("no heaps", NONE, game("nim", "").best());
        due("no heaps but the pass", NONE, game("nim", "p").best());
        due("no digits", NONE, game(".0", "3").best());
        due("no digits but the pass", 0, game(".0", "3p").best());
        due("a bound heap without a move", NONE, game(".01", "1!+2p").best());
        due("one move", 0, game(".1", "1").best());
    }

    // ---- Promise 21: good

    @Sentence(at = "Promise 21", says = "Counts the good moves.")
    static void promise21CountsThem() {
        due("one of three", 1, game("nim", "1+2").good());
        due("two of seven", 2, game("nim", "2+2+3").good());
        due("all of a lost position", 2, game("nim", "2+2").good());
        due("draws alone", 1, draw("2").good());
    }

    @Sentence(at = "Promise 21", says = "Returns the number.")
    static void promise21FromNoneToAll() {
        due("no move", 0, game("nim", "").good());
        due("no move in misere play", 0, misere(game("nim", "")).good());
        due("one move", 1, game(".1", "1").good());
        HeapGames lost = game("nim", "5+5");
        due("all moves", lost.count(4), lost.good());
    }

    // ---- Promise 22: playOut

    @Sentence(at = "Promise 22", says = "Lets both players make the best moves, one after the other, until the game ends, or a "
            + "number of moves have been made.")
    static void promise22UntilTheEndOrTheNumber() {
        HeapGames game = game("nim", "2+2+3");
        String[] positions = {"2+2", "1+2", "1+1", "1", ""};
        for (int most = 1; most <= 5; most++) {
            due("playOut(" + most + ")", most, game.playOut(most));
            duePosition("after " + most, positions[most - 1], game);
            for (int i = 0; i < most; i++) {
                game.undo();
            }
        }
        due("playOut(6)", 5, game.playOut(6));
        due("history", 6, game.count(5));
        due("playOut(1) at the end", 0, game.playOut(1));
        due("history stays at the end", 6, game.count(5));
    }

    @Sentence(at = "Promise 22", says = "most: 1 to 40")
    static void promise22From1To40() {
        HeapGames game = endless();
        due("playOut(0)", BAD, game.playOut(0));
        due("playOut(-1)", BAD, game.playOut(-1));
        due("playOut(41)", BAD, game.playOut(41));
        due("playOut of the least", BAD, game.playOut(LEAST));
        due("playOut of the greatest", BAD, game.playOut(GREATEST));
        due("playOut(1)", 1, game.playOut(1));
        duePosition("after one", "1", game);
        due("playOut(40)", 40, game.playOut(40));
        duePosition("after forty more", "1", game);
        due("playOut(39)", 39, game.playOut(39));
        duePosition("after 39 more", "2", game);
    }

    @Sentence(at = "Promise 22", says = "Returns how many moves were made; BAD.")
    static void promise22ReturnsHowMany() {
        String[] positions = {"10", "1+2+3", "1+9", "2+2+2+2+2", "1+1+1+1+1+1+1+1+1+1", "3+3+4p", "5!+5"};
        String[] rules = {"nim", "kayles", "dawson", "guiles", ".3", ".7777777777"};
        for (String rule : rules) {
            for (String position : positions) {
                HeapGames game = game(rule, position);
                due("as many as the distance", game.distance(), game.playOut(40));
                HeapGames misere = misere(game(rule, position));
                due("as many as the misere distance", misere.distance(), misere.playOut(40));
            }
        }
        due("playOut(9) of ten", 9, game(".3", "10").playOut(9));
        due("playOut(10) of ten", 10, game(".3", "10").playOut(10));
        due("playOut(11) of ten", 10, game(".3", "10").playOut(11));
        due("playOut(1) of none", 0, game(".3", "").playOut(1));
    }

    // ---- Promise 23: outcomeWith

    @Sentence(at = "Promise 23", says = "Tells what the outcome would be with another pass: if it was there, or if it was not.")
    static void promise23TellsBoth() {
        HeapGames lost = game("nim", "1+1");
        due("if it was there", 1, lost.outcomeWith(true));
        due("if it was not", 0, lost.outcomeWith(false));
        due("outcome", 0, lost.outcome());
        HeapGames won = game("nim", "1+1p");
        due("if it was there", 1, won.outcomeWith(true));
        due("if it was not", 0, won.outcomeWith(false));
        due("outcome", 1, won.outcome());
        dueWithoutChange("outcomeWith(true)", 1, () -> game("nim", "1+1"), game -> game.outcomeWith(true));
        dueWithoutChange("outcomeWith(false)", 0, () -> game("nim", "1+1p"), game -> game.outcomeWith(false));
    }

    @Sentence(at = "Promise 23", says = "there: whether it is there")
    static void promise23WhereThePassIsOfNoUse() {
        due("no heaps", 0, game("nim", "").outcomeWith(true));
        due("no heaps", 0, game("nim", "").outcomeWith(false));
        due("a bound heap without a move", 0, game(".0", "1!").outcomeWith(true));
        due("a free heap without a move", 1, game(".0", "1").outcomeWith(true));
        due("a free heap without a move or a pass", 0, game(".0", "1p").outcomeWith(false));
    }

    @Sentence(at = "Promise 23", says = "Returns the outcome.")
    static void promise23ReturnsEachOfThree() {
        due("lost", 0, draw("1+1").outcomeWith(false));
        due("won", 1, draw("1").outcomeWith(false));
        due("drawn", 2, draw("2").outcomeWith(false));
        due("misere", 1, misere(game("nim", "1+1")).outcomeWith(false));
    }

    // ---- Promise 24: census

    private static int all(HeapGames game, int counters, boolean there) {
        int sum = 0;
        for (int outcome = 0; outcome <= 2; outcome++) {
            sum += game.census(counters, there, outcome);
        }
        return sum;
    }

    @Sentence(at = "Promise 24", says = "Counts the positions without bound heaps that have some number of counters and some "
            + "outcome.")
    static void promise24CountsFreePositions() {
        HeapGames game = game(".3", "5!+1p");
        for (int counters = 0; counters <= 10; counters++) {
            int even = counters % 2 == 0 ? PARTITIONS[counters] : 0;
            due("lost of " + counters, even, game.census(counters, false, 0));
            due("won of " + counters, PARTITIONS[counters] - even, game.census(counters, false, 1));
            due("drawn of " + counters, 0, game.census(counters, false, 2));
        }
        HeapGames obliged = obliging(growing(game(".7777777777", "10!"), 1022), 2046);
        for (int counters = 0; counters <= 10; counters++) {
            due("all of " + counters, PARTITIONS[counters], all(obliged, counters, false));
            due("all of " + counters + " with the pass", PARTITIONS[counters], all(obliged, counters, true));
        }
        // Of 4, 1+3, 2+2, 1+1+2 and 1+1+1+1, nim loses 2+2 and 1+1+1+1.
        due("nim of 4, lost", 2, game("nim", "").census(4, false, 0));
        due("nim of 4, won", 3, game("nim", "").census(4, false, 1));
        // Of 2 and 1+1 by a game in which two may grow, only two is drawn.
        due("drawn of 2", 1, draw("").census(2, false, 2));
        due("lost of 2", 1, draw("").census(2, false, 0));
    }

    @Sentence(at = "Promise 24", says = "counters: 0 to 10")
    static void promise24CountersFrom0To10() {
        HeapGames game = game(".0", "");
        due("census(-1)", BAD, game.census(-1, false, 0));
        due("census(0)", 1, game.census(0, false, 0));
        due("census(1)", 1, game.census(1, false, 0));
        due("census(9)", 30, game.census(9, false, 0));
        due("census(10)", 42, game.census(10, false, 0));
        due("census(11)", BAD, game.census(11, false, 0));
        due("census of the least", BAD, game.census(LEAST, false, 0));
        due("census of the greatest", BAD, game.census(GREATEST, false, 0));
    }

    @Sentence(at = "Promise 24", says = "there: whether the pass is there")
    static void promise24WithThePassAndWithout() {
        HeapGames game = game(".0", "");
        due("no heaps, lost", 1, game.census(0, true, 0));
        due("no heaps, won", 0, game.census(0, true, 1));
        due("one, lost without the pass", 1, game.census(1, false, 0));
        due("one, lost with the pass", 0, game.census(1, true, 0));
        due("one, won with the pass", 1, game.census(1, true, 1));
        due("ten, won with the pass", 42, game.census(10, true, 1));
        misere(game);
        due("misere, no heaps, won", 1, game.census(0, true, 1));
        due("misere, ten, won without the pass", 42, game.census(10, false, 1));
        due("misere, ten, lost with the pass", 42, game.census(10, true, 0));
        HeapGames passing = game(".0", "3p");
        due("whatever pass there is at present", 1, passing.census(1, false, 0));
    }

    @Sentence(at = "Promise 24", says = "outcome: 0 to 2")
    static void promise24OutcomesFrom0To2() {
        HeapGames game = draw("");
        due("outcome -1", BAD, game.census(1, false, -1));
        due("outcome 0", 0, game.census(1, false, 0));
        due("outcome 1", 1, game.census(1, false, 1));
        due("outcome 2", 0, game.census(1, false, 2));
        due("outcome 3", BAD, game.census(1, false, 3));
        due("the least outcome", BAD, game.census(1, true, LEAST));
        due("the greatest outcome", BAD, game.census(1, true, GREATEST));
    }

    @Sentence(at = "Promise 24", says = "Returns the number; BAD.")
    static void promise24ByTheRulesAtPresent() {
        HeapGames game = game(".0", "2+3!p");
        due("no moves", 42, game.census(10, false, 0));
        typed(game, ".3").readRules();
        due("one after the other", 42, game.census(10, false, 0));
        due("one after the other, misere", 0, misere(game).census(10, false, 0));
        game.setGrowing(1022);
        due("all of ten", 42, all(game, 10, false));
        due("bad in both", BAD, game.census(11, true, 3));
        dueWithoutChange("census(10, true, 0)", 0, () -> game(".0", "2+3!p"), one -> one.census(10, true, 0));
    }
}
