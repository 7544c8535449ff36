import java.util.function.Supplier;

/** The document's beginning, Errors and Rules, and the promises 1 to 5 and 9. */
public final class BoundaryRulesTest extends Boundaries {
    public static void main(String[] args) {
        runAll(BoundaryRulesTest.class);
    }

    // ---- What it is, and the constants

    @Sentence(at = "What it is", says = "An object is used for at most 512 calls after it has been made; "
            + "what later calls answer is free.")
    static void whatItIsThe512thCallAnswersAsOneOfTheFirst() {
        HeapGames fresh = new HeapGames();
        fresh.setDigit(1, 7);
        fresh.place(5);
        long want = fresh.digest();
        HeapGames game = new HeapGames();
        game.setDigit(1, 7);
        game.place(5);
        int calls = 2;
        while (calls < 510) {
            due("play, call " + (calls + 1), 4, game.play(0));
            due("undo, call " + (calls + 2), 1, game.undo());
            calls += 2;
        }
        due("digest, call 511", want, game.digest());
        due("digest, call 512", want, game.digest());
        for (int later = 513; later < 1200; later++) {
            game.setPass(later % 2 == 0);
            game.type(later % 128);
            game.digest();
        }
    }

    @Sentence(at = "What it is", says = "An object is used for at most 512 calls after it has been made; ")
    static void whatItIsTheDearestCallCanBeMade512Times() {
        HeapGames game = game(".7777777777", "10p");
        growing(obliging(game, 2046), 1022);
        HeapGames usual = growing(obliging(game(".7777777777", "10p"), 2046), 1022);
        long usualDigest = usual.digest();
        long misereDigest = misere(usual).digest();
        for (int i = 0; i < 240; i++) {
            game.setMisere(i % 2 == 1);
            due("digest " + i, i % 2 == 1 ? misereDigest : usualDigest, game.digest());
        }
    }

    @Sentence(at = "The constants", says = "NONE = -1, BAD = -2, STATE = -3, FULL = -4: No such thing; argument out of "
            + "range; not possible at present; limit exceeded.")
    static void constantsAreAsWritten() {
        due("NONE", -1, HeapGames.NONE);
        due("BAD", -2, HeapGames.BAD);
        due("STATE", -3, HeapGames.STATE);
        due("FULL", -4, HeapGames.FULL);
    }

    // ---- Errors

    @Sentence(at = "Errors", says = "BAD: an argument is out of range, or names something that does not exist.")
    static void errorsBadOutOfRangeOrNotThere() {
        HeapGames game = game(".1", "1");
        due("the move that is there", 1, game.move(0, 1));
        due("a move that is not there", BAD, game.move(1, 1));
        due("a property that is not there", BAD, game.move(0, 7));
        due("the heap that is there", 1, game.heap(0, 0));
        due("a heap that is not there", BAD, game.heap(1, 0));
        due("a digit in its range", 1, game.setDigit(1, 7));
        due("a digit out of its range", BAD, game.setDigit(1, 8));
    }

    @Sentence(at = "Errors", says = "STATE: the call is not possible at present, as described.")
    static void errorsStateOnlyWithoutHistory() {
        HeapGames game = new HeapGames();
        due("undo of nothing", STATE, game.undo());
        game.place(1);
        due("undo of one", 0, game.undo());
        due("undo of nothing again", STATE, game.undo());
    }

    @Sentence(at = "Errors", says = "FULL: a limit would be exceeded.")
    static void errorsFullOnlyBeyondTheLimit() {
        HeapGames game = new HeapGames();
        due("ten counters", 1, game.place(10));
        due("eleven counters", FULL, game.place(1));
        typed(game, "x".repeat(40));
        due("the byte 41", FULL, game.type('x'));
    }

    @Sentence(at = "Errors", says = "If several of them apply to a call, the one that comes first in the description of "
            + "the result is returned.")
    static void errorsTheFirstOfSeveral() {
        HeapGames game = typed(new HeapGames(), "x".repeat(40));
        due("type: BAD before FULL", BAD, game.type(128));
        due("type: BAD before FULL", BAD, game.type(-1));
        due("type: FULL alone", FULL, game.type(127));
        game.place(10);
        due("place: BAD before FULL", BAD, game.place(0));
        due("place: BAD before FULL", BAD, game.place(LEAST));
        due("place: FULL alone", FULL, game.place(1));
    }

    @Sentence(at = "Errors", says = "Results of -2000 and less, the faults of texts, are errors, too.")
    static void errorsFaultsOfTexts() {
        due("the least fault of rules", -2000, typed(new HeapGames(), "x").readRules());
        due("the least fault of a position", -2000, typed(new HeapGames(), "x").readPosition());
        due("the greatest fault of rules", -2040, typed(new HeapGames(), " ".repeat(40)).readRules());
        String cut = " ".repeat(38) + "1+";
        due("the greatest fault of a position", -2040, typed(new HeapGames(), cut).readPosition());
    }

    private static HeapGames richGame(String text) {
        HeapGames game = misere(growing(obliging(game(".370007", "1+3!p"), 4), 14));
        game.place(2);
        game.setPass(false);
        typed(game, "2+4p").readPosition();
        game.play(1);
        return typed(game, text);
    }

    @Sentence(at = "Errors", says = "A call that returns an error changes nothing.")
    static void errorsOfRulesAndTextsChangeNothing() {
        Supplier<HeapGames> rich = () -> richGame(".3 + 1");
        dueWithoutChange("setDigit(0, 1)", BAD, rich, game -> game.setDigit(0, 1));
        dueWithoutChange("setDigit(11, 1)", BAD, rich, game -> game.setDigit(11, 1));
        dueWithoutChange("setDigit(1, -1)", BAD, rich, game -> game.setDigit(1, -1));
        dueWithoutChange("setDigit(1, 8)", BAD, rich, game -> game.setDigit(1, 8));
        dueWithoutChange("setObliging(1)", BAD, rich, game -> game.setObliging(1));
        dueWithoutChange("setObliging(2050)", BAD, rich, game -> game.setObliging(2050));
        dueWithoutChange("setGrowing(3)", BAD, rich, game -> game.setGrowing(3));
        dueWithoutChange("setGrowing(1026)", BAD, rich, game -> game.setGrowing(1026));
        dueWithoutChange("type(-1)", BAD, rich, game -> game.type(-1));
        dueWithoutChange("type(128)", BAD, rich, game -> game.type(128));
        dueWithoutChange("type(65)", FULL, () -> richGame("x".repeat(40)), game -> game.type(65));
        dueWithoutChange("readRules()", -2003, rich, HeapGames::readRules);
        dueWithoutChange("readRules() of a long name", -2000, () -> richGame("kaylesx"), HeapGames::readRules);
        dueWithoutChange("readRules() of eleven octals", -2011, () -> richGame(".77777777777"), HeapGames::readRules);
        dueWithoutChange("rule(0)", BAD, rich, game -> game.rule(0));
        dueWithoutChange("rule(14)", BAD, rich, game -> game.rule(14));
    }

    @Sentence(at = "Errors", says = "A call that returns an error changes nothing.")
    static void errorsOfPositionsChangeNothing() {
        Supplier<HeapGames> rich = () -> richGame("1!+2p+");
        dueWithoutChange("place(0)", BAD, rich, game -> game.place(0));
        dueWithoutChange("place(10)", FULL, rich, game -> game.place(10));
        dueWithoutChange("lift(-1)", BAD, rich, game -> game.lift(-1));
        dueWithoutChange("lift(2)", BAD, rich, game -> game.lift(2));
        dueWithoutChange("readPosition()", -2005, rich, HeapGames::readPosition);
        dueWithoutChange("readPosition() of a great one", -2003, () -> richGame("9!+2"), HeapGames::readPosition);
        dueWithoutChange("heap(2, 0)", BAD, rich, game -> game.heap(2, 0));
        dueWithoutChange("heap(0, 3)", BAD, rich, game -> game.heap(0, 3));
        dueWithoutChange("undo()", STATE, () -> typed(undoneGame(), "1+"), HeapGames::undo);
    }

    /** An object with rules of all kinds and a history that has been undone. */
    private static HeapGames undoneGame() {
        HeapGames game = misere(growing(obliging(game("kayles", "3!+4p"), 2), 6));
        game.undo();
        return game;
    }

    @Sentence(at = "Errors", says = "A call that returns an error changes nothing.")
    static void errorsOfMovesAndAnswersChangeNothing() {
        Supplier<HeapGames> rich = () -> richGame("p");
        int moves = rich.get().count(4);
        dueWithoutChange("move(-1, 0)", BAD, rich, game -> game.move(-1, 0));
        dueWithoutChange("move(" + moves + ", 0)", BAD, rich, game -> game.move(moves, 0));
        dueWithoutChange("move(0, 7)", BAD, rich, game -> game.move(0, 7));
        dueWithoutChange("play(-1)", BAD, rich, game -> game.play(-1));
        dueWithoutChange("play(" + moves + ")", BAD, rich, game -> game.play(moves));
        dueWithoutChange("playOut(0)", BAD, rich, game -> game.playOut(0));
        dueWithoutChange("playOut(41)", BAD, rich, game -> game.playOut(41));
        dueWithoutChange("census(11, true, 0)", BAD, rich, game -> game.census(11, true, 0));
        dueWithoutChange("census(1, true, 3)", BAD, rich, game -> game.census(1, true, 3));
        dueWithoutChange("grundy(61)", BAD, rich, game -> game.grundy(61));
        dueWithoutChange("period(2)", BAD, rich, game -> game.period(2));
        dueWithoutChange("count(8)", BAD, rich, game -> game.count(8));
    }

    @Sentence(at = "Errors", says = "A call that returns an error changes nothing.")
    static void errorsLeaveTheOldestOfThirtyPositions() {
        Supplier<HeapGames> full = () -> {
            HeapGames game = typed(new HeapGames(), "x");
            for (int i = 0; i < 10; i++) {
                game.place(1);
            }
            for (int i = 0; i < 20; i++) {
                game.setPass(i % 3 == 0);
            }
            return game;
        };
        due("history", 30, full.get().count(5));
        dueWithoutChange("place(1)", FULL, full, game -> game.place(1));
        dueWithoutChange("lift(10)", BAD, full, game -> game.lift(10));
        dueWithoutChange("readPosition()", -2000, full, HeapGames::readPosition);
        dueWithoutChange("play(0)", BAD, full, game -> game.play(0));
        dueWithoutChange("playOut(41)", BAD, full, game -> game.playOut(41));
        dueWithoutChange("playOut(40) without a move", 0, full, game -> game.playOut(40));
    }

    @Sentence(at = "Errors", says = "NONE is not an error; it means that there is no such thing, and is returned only if "
            + "no error applies.")
    static void errorsNoneOnlyWithoutAnError() {
        HeapGames kayles = game("kayles", "");
        due("period(0)", NONE, kayles.period(0));
        due("period(1)", NONE, kayles.period(1));
        due("period(2)", BAD, kayles.period(2));
        due("period(-1)", BAD, kayles.period(-1));
        due("best of no move", NONE, kayles.best());
        HeapGames draw = growing(game(".3", "2"), 4);
        due("distance of a draw", NONE, draw.distance());
        due("move(1, 6), to a draw", NONE, draw.move(1, 6));
        due("move(2, 6)", BAD, draw.move(2, 6));
        due("move(1, 7)", BAD, draw.move(1, 7));
    }

    // ---- Rules

    @Sentence(at = "Rules", says = "For each number k from 1 to 10 there is a digit from 0 to 7, 0 at first")
    static void rulesAllDigitsAre0AtFirst() {
        HeapGames game = new HeapGames();
        for (int k = 1; k <= 10; k++) {
            due("digit " + k + " at first", 0, game.rule(k));
        }
        for (int k = 1; k <= 10; k++) {
            for (int digit = 1; digit <= 7; digit++) {
                due("setDigit(" + k + ", " + digit + ")", digit - 1, game.setDigit(k, digit));
            }
        }
        for (int k = 1; k <= 10; k++) {
            due("digit " + k, 7, game.rule(k));
        }
    }

    @Sentence(at = "Rules", says = "which is the sum of 1 if k counters may be taken from a heap of just k counters, so "
            + "that it is gone; 2 if k counters may be taken from a greater heap, which is left as one; and 4 if k "
            + "counters may be taken from a heap of at least k + 2, and what is left is split into two heaps.")
    static void rulesEachDigitByEachSize() {
        for (int k = 1; k <= 10; k++) {
            HeapGames game = new HeapGames();
            for (int size = 1; size <= 10; size++) {
                game.place(size);
                for (int digit = 0; digit <= 7; digit++) {
                    game.setDigit(k, digit);
                    int gone = digit % 2 == 1 && size == k ? 1 : 0;
                    int left = digit / 2 % 2 == 1 && size >= k + 1 ? 1 : 0;
                    int splits = digit / 4 == 1 && size >= k + 2 ? (size - k) / 2 : 0;
                    due("moves in " + size + " by digit " + digit + " of " + k, gone + left + splits, game.count(4));
                }
                game.lift(0);
            }
        }
    }

    @Sentence(at = "Rules", says = "1 if k counters may be taken from a heap of just k counters, so that it is gone")
    static void rulesDigit1AtItsSizeAlone() {
        dueMoves("a heap of 1 less", game(".001", "2"));
        dueMoves("a heap of just k", game(".001", "3"), new int[] {0, 3, 3, 0, 0});
        dueMoves("a heap of 1 more", game(".001", "4"));
        dueMoves("ten of ten", game(".0000000001", "10"), new int[] {0, 10, 10, 0, 0});
    }

    @Sentence(at = "Rules", says = "2 if k counters may be taken from a greater heap, which is left as one")
    static void rulesDigit2FromOneMoreOn() {
        dueMoves("a heap of just k", game(".002", "3"));
        dueMoves("a heap of 1 more", game(".002", "4"), new int[] {0, 4, 3, 0, 1});
        dueMoves("a heap of ten", game(".002", "10"), new int[] {0, 10, 3, 0, 7});
        dueMoves("nine of ten", game(".000000002", "10"), new int[] {0, 10, 9, 0, 1});
        dueMoves("ten of ten", game(".0000000002", "10"));
    }

    @Sentence(at = "Rules", says = "4 if k counters may be taken from a heap of at least k + 2, and what is left is split "
            + "into two heaps.")
    static void rulesDigit4FromTwoMoreOn() {
        dueMoves("a heap of just k", game(".004", "3"));
        dueMoves("a heap of k + 1", game(".004", "4"));
        dueMoves("a heap of k + 2", game(".004", "5"), new int[] {0, 5, 3, 1, 1});
        dueMoves("a heap of k + 3", game(".004", "6"), new int[] {0, 6, 3, 1, 2});
        dueMoves("a heap of k + 4", game(".004", "7"), new int[] {0, 7, 3, 1, 3}, new int[] {0, 7, 3, 2, 2});
        dueMoves("eight of ten", game(".00000004", "10"), new int[] {0, 10, 8, 1, 1});
        dueMoves("nine of ten", game(".000000004", "10"));
    }

    @Sentence(at = "Rules", says = "There is a set of numbers k that oblige, a set of sizes from 1 to 9 at which a heap "
            + "may grow, both empty at first, and play is usual (at first) or misere.")
    static void rulesOthersAreEmptyAndUsualAtFirst() {
        HeapGames game = new HeapGames();
        due("obliging at first", 0, game.rule(11));
        due("growing at first", 0, game.rule(12));
        due("misere at first", 0, game.rule(13));
        due("obliging at first", 0, game.setObliging(2046));
        due("growing at first", 0, game.setGrowing(1022));
        due("misere at first", 0, game.setMisere(true));
    }

    @Sentence(at = "Rules", says = "Sets of numbers are written as integers in which bit k stands for the number k.")
    static void rulesBitsOfSets() {
        HeapGames game = game(".2222222222", "10");
        for (int k = 1; k <= 9; k++) {
            game.setObliging(1 << k);
            for (int taken = 1; taken <= 9; taken++) {
                game.play(taken - 1);
                due("bound after taking " + taken + " if " + k + " obliges", taken == k ? 1 : 0, game.count(3));
                game.undo();
            }
        }
        for (int size = 1; size <= 9; size++) {
            HeapGames grown = new HeapGames();
            grown.place(size);
            for (int bit = 1; bit <= 9; bit++) {
                grown.setGrowing(1 << bit);
                due("moves of " + size + " if " + bit + " grows", size == bit ? 1 : 0, grown.count(4));
            }
        }
    }

    // ---- Promise 1: A new object

    @Sentence(at = "Promise 1", says = "Creates a game without moves, with an empty position, and an empty text.")
    static void promise1NewObject() {
        HeapGames game = new HeapGames();
        for (int what = 0; what <= 6; what++) {
            due("count(" + what + ")", 0, game.count(what));
        }
        due("count(7)", 1, game.count(7));
        due("heap(0, 0)", BAD, game.heap(0, 0));
        due("move(0, 0)", BAD, game.move(0, 0));
        dueSolution("new", game, 0, 0, NONE, 0);
        due("undo", STATE, game.undo());
        due("erase", 0, game.erase());
        game.place(10);
        game.setPass(true);
        due("the pass is the only move", 1, game.count(4));
        due("another new one has nothing of this", 0, new HeapGames().count(0));
    }

    // ---- Promise 2: setDigit

    @Sentence(at = "Promise 2", says = "Sets the digit of a number.")
    static void promise2SetsThisDigitAlone() {
        HeapGames game = new HeapGames();
        game.setDigit(10, 6);
        game.setDigit(1, 3);
        for (int what = 1; what <= 13; what++) {
            due("rule(" + what + ")", what == 1 ? 3 : what == 10 ? 6 : 0, game.rule(what));
        }
    }

    @Sentence(at = "Promise 2", says = "k: 1 to 10")
    static void promise2NumbersFrom1To10() {
        HeapGames game = new HeapGames();
        due("setDigit(0, 1)", BAD, game.setDigit(0, 1));
        due("setDigit(1, 1)", 0, game.setDigit(1, 1));
        due("setDigit(10, 1)", 0, game.setDigit(10, 1));
        due("setDigit(11, 1)", BAD, game.setDigit(11, 1));
        due("setDigit(-1, 1)", BAD, game.setDigit(-1, 1));
        due("setDigit of the least", BAD, game.setDigit(LEAST, 1));
        due("setDigit of the greatest", BAD, game.setDigit(GREATEST, 1));
    }

    @Sentence(at = "Promise 2", says = "digit: 0 to 7")
    static void promise2DigitsFrom0To7() {
        HeapGames game = new HeapGames();
        due("setDigit(4, -1)", BAD, game.setDigit(4, -1));
        due("setDigit(4, 7)", 0, game.setDigit(4, 7));
        due("setDigit(4, 8)", BAD, game.setDigit(4, 8));
        due("setDigit(4, 0)", 7, game.setDigit(4, 0));
        due("setDigit to the least", BAD, game.setDigit(4, LEAST));
        due("setDigit to the greatest", BAD, game.setDigit(4, GREATEST));
        due("setDigit(11, 8)", BAD, game.setDigit(11, 8));
        due("rule(4)", 0, game.rule(4));
    }

    @Sentence(at = "Promise 2", says = "Returns the digit before; BAD.")
    static void promise2ReturnsTheDigitBefore() {
        HeapGames game = typed(new HeapGames(), ".1234567012");
        game.readRules();
        int[] digits = {1, 2, 3, 4, 5, 6, 7, 0, 1, 2};
        for (int k = 1; k <= 10; k++) {
            due("setDigit(" + k + ", 5)", digits[k - 1], game.setDigit(k, 5));
            due("setDigit(" + k + ", 5) again", 5, game.setDigit(k, 5));
        }
    }

    // ---- Promise 3: setObliging

    @Sentence(at = "Promise 3", says = "Sets the numbers that oblige.")
    static void promise3SetsObligingAlone() {
        HeapGames game = misere(growing(game("nim", "2"), 6));
        game.setObliging(2);
        due("rule(11)", 2, game.rule(11));
        due("rule(12)", 6, game.rule(12));
        due("rule(13)", 1, game.rule(13));
        game.play(0);
        duePosition("one is taken", "1!", game);
        game.undo();
        game.setObliging(4);
        game.play(0);
        duePosition("one is taken, two obliges", "1", game);
    }

    @Sentence(at = "Promise 3", says = "numbers: a set of numbers from 1 to 10")
    static void promise3SetsFrom1To10() {
        for (int bit = 0; bit < 32; bit++) {
            boolean good = bit >= 1 && bit <= 10;
            HeapGames game = new HeapGames();
            due("setObliging of the bit " + bit, good ? 0 : BAD, game.setObliging(1 << bit));
            due("with another bit", good ? 1 << bit : BAD, game.setObliging(1 << bit | 4));
        }
        HeapGames game = new HeapGames();
        due("all", 0, game.setObliging(2046));
        due("all and 0", BAD, game.setObliging(2047));
        due("all and 11", BAD, game.setObliging(4094));
        due("all bits", BAD, game.setObliging(-1));
        due("all but the bit 0", BAD, game.setObliging(-2));
        due("the empty set", 2046, game.setObliging(0));
    }

    @Sentence(at = "Promise 3", says = "Returns the set before; BAD.")
    static void promise3ReturnsTheSetBefore() {
        HeapGames game = new HeapGames();
        due("before", 0, game.setObliging(1024));
        due("before", 1024, game.setObliging(1024));
        due("bad", BAD, game.setObliging(2048));
        due("before", 1024, game.setObliging(2));
        due("before", 2, game.setObliging(0));
        due("before", 0, game.setObliging(0));
    }

    // ---- Promise 4: setGrowing

    @Sentence(at = "Promise 4", says = "Sets the sizes at which a heap may grow.")
    static void promise4SetsGrowingAlone() {
        HeapGames game = misere(obliging(game(".0", "2"), 6));
        game.setGrowing(4);
        due("rule(11)", 6, game.rule(11));
        due("rule(12)", 4, game.rule(12));
        due("rule(13)", 1, game.rule(13));
        dueMoves("two may grow", game, new int[] {1, 2, 0, 0, 3});
        game.setGrowing(10);
        dueMoves("one and three may grow", game);
    }

    @Sentence(at = "Promise 4", says = "sizes: a set of numbers from 1 to 9")
    static void promise4SetsFrom1To9() {
        for (int bit = 0; bit < 32; bit++) {
            boolean good = bit >= 1 && bit <= 9;
            HeapGames game = new HeapGames();
            due("setGrowing of the bit " + bit, good ? 0 : BAD, game.setGrowing(1 << bit));
            due("with another bit", good ? 1 << bit : BAD, game.setGrowing(1 << bit | 4));
        }
        HeapGames game = new HeapGames();
        due("all", 0, game.setGrowing(1022));
        due("all and 0", BAD, game.setGrowing(1023));
        due("all and 10", BAD, game.setGrowing(2046));
        due("all bits", BAD, game.setGrowing(-1));
        due("all but the bit 0", BAD, game.setGrowing(-2));
        due("the empty set", 1022, game.setGrowing(0));
    }

    @Sentence(at = "Promise 4", says = "Returns the set before; BAD.")
    static void promise4ReturnsTheSetBefore() {
        HeapGames game = new HeapGames();
        due("before", 0, game.setGrowing(512));
        due("before", 512, game.setGrowing(512));
        due("bad", BAD, game.setGrowing(1024));
        due("before", 512, game.setGrowing(2));
        due("before", 2, game.setGrowing(0));
        due("before", 0, game.setGrowing(0));
    }

    // ---- Promise 5: setMisere

    @Sentence(at = "Promise 5", says = "Sets how it is played.")
    static void promise5SetsMisereAlone() {
        HeapGames game = growing(obliging(game("nim", "1"), 6), 8);
        due("usual outcome", 1, game.outcome());
        game.setMisere(true);
        due("misere outcome", 0, game.outcome());
        due("rule(11)", 6, game.rule(11));
        due("rule(12)", 8, game.rule(12));
        game.setMisere(false);
        due("usual outcome again", 1, game.outcome());
    }

    @Sentence(at = "Promise 5", says = "misere: whether play is misere")
    static void promise5TrueIsMisere() {
        HeapGames game = new HeapGames();
        game.setMisere(true);
        due("rule(13) of true", 1, game.rule(13));
        game.setMisere(false);
        due("rule(13) of false", 0, game.rule(13));
    }

    @Sentence(at = "Promise 5", says = "Returns 1 if it was misere before, otherwise 0.")
    static void promise5ReturnsHowItWasBefore() {
        HeapGames game = new HeapGames();
        due("false at first", 0, game.setMisere(false));
        due("true after usual", 0, game.setMisere(true));
        due("true after misere", 1, game.setMisere(true));
        due("false after misere", 1, game.setMisere(false));
        due("false after usual", 0, game.setMisere(false));
    }

    // ---- Promise 9: rule

    private static HeapGames ruled() {
        HeapGames game = typed(new HeapGames(), ".1234567076");
        game.readRules();
        return misere(growing(obliging(game, 1026), 514));
    }

    @Sentence(at = "Promise 9", says = "Returns a rule.")
    static void promise9ReturnsEachRule() {
        int[] rules = {1, 2, 3, 4, 5, 6, 7, 0, 7, 6, 1026, 514, 1};
        HeapGames game = ruled();
        for (int what = 1; what <= 13; what++) {
            due("rule(" + what + ")", rules[what - 1], game.rule(what));
        }
    }

    @Sentence(at = "Promise 9", says = "what: 1 to 10: the digit of this number; 11: the numbers that oblige; 12: the "
            + "sizes at which heaps grow; 13: 1 for misere play, otherwise 0")
    static void promise9WhatFrom1To13() {
        HeapGames game = ruled();
        due("rule(0)", BAD, game.rule(0));
        due("rule(1)", 1, game.rule(1));
        due("rule(10)", 6, game.rule(10));
        due("rule(11)", 1026, game.rule(11));
        due("rule(12)", 514, game.rule(12));
        due("rule(13)", 1, game.rule(13));
        due("rule(14)", BAD, game.rule(14));
        game.setMisere(false);
        due("rule(13) of usual play", 0, game.rule(13));
    }

    @Sentence(at = "Promise 9", says = "Returns the rule; BAD.")
    static void promise9BadFarAway() {
        HeapGames game = ruled();
        due("rule(-1)", BAD, game.rule(-1));
        due("rule of the least", BAD, game.rule(LEAST));
        due("rule of the greatest", BAD, game.rule(GREATEST));
    }
}
