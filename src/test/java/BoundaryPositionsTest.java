import java.util.function.Consumer;

/** The document's Positions and History, and the promises 10, 11, 12, 14 and 15. */
public final class BoundaryPositionsTest extends Boundaries {
    public static void main(String[] args) {
        runAll(BoundaryPositionsTest.class);
    }

    // ---- Positions

    @Sentence(at = "Positions", says = "A position consists of heaps, each of at least one counter, with at most 10 counters "
            + "together;")
    static void positionsOfAtMostTenCounters() {
        HeapGames one = new HeapGames();
        due("a heap of no counters", BAD, one.place(0));
        due("a heap of one counter", 1, one.place(1));
        due("a heap of nine beside it", 2, one.place(9));
        due("the counter 11", FULL, one.place(1));
        HeapGames many = new HeapGames();
        for (int heaps = 1; heaps <= 10; heaps++) {
            due("heaps of one counter", heaps, many.place(1));
        }
        due("the heap 11", FULL, many.place(1));
        due("counters", 10, many.count(1));
        due("heaps", 10, many.count(0));
    }

    @Sentence(at = "Positions", says = "each of the heaps is bound or free; and the pass is there or not.")
    static void positionsBoundOrFreeWithAPassOrNot() {
        String[] texts = {"2", "2!", "2p", "2!p", "1+1!", "1+1!p", "1!+2!+3!", "1+2!+3"};
        int[] bound = {0, 1, 0, 1, 1, 1, 3, 1};
        for (int i = 0; i < texts.length; i++) {
            HeapGames game = game(".0", texts[i]);
            duePosition("as it was written", texts[i], game);
            due("bound heaps of " + texts[i], bound[i], game.count(3));
        }
    }

    @Sentence(at = "Positions", says = "At first there are no heaps, and the pass is not there.")
    static void positionsAtFirst() {
        HeapGames game = new HeapGames();
        due("heaps", 0, game.count(0));
        due("counters", 0, game.count(1));
        due("pass", 0, game.count(2));
        due("setPass", 0, game.setPass(true));
    }

    @Sentence(at = "Positions", says = "Heaps are ordered by ascending sizes, and those of equal sizes free ones first; they "
            + "are numbered from 0 in this order.")
    static void positionsAreOrdered() {
        duePosition("read", "1!+2+2!+4!", game(".0", "4!+2!+1!+2"));
        duePosition("read", "1+1+1!+1!+3", game(".0", "1!+3+1+1!+1"));
        duePosition("read", "2!+3", game(".0", "3+2!"));
        HeapGames game = game(".0", "3!+1!");
        game.place(3);
        game.place(1);
        game.place(2);
        duePosition("placed", "1+1!+2+3+3!", game);
        due("heap(-1, 0)", BAD, game.heap(-1, 0));
        due("heap(0, 0)", 1, game.heap(0, 0));
        due("heap(0, 1)", 0, game.heap(0, 1));
        due("heap(1, 1)", 1, game.heap(1, 1));
        due("heap(4, 1)", 1, game.heap(4, 1));
        due("heap(5, 0)", BAD, game.heap(5, 0));
        HeapGames split = game(".4", "3+7");
        split.play(2);
        duePosition("a split around another heap", "2+3+4", split);
    }

    @Sentence(at = "Positions", says = "Two positions with the same ordered heaps and the same pass are the same.")
    static void positionsThatAreTheSame() {
        // From 1+2 by taking one: 2 and 1+1, then 1, which both of them reach, then the end.
        due("1+2 reaches", 5, game(".3", "1+2").count(7));
        due("2+1 reaches", 5, game(".3", "2+1").count(7));
        // If one obliges: 2 and 1+1!, then 1! after 2 and 1 after 1+1!, which are two, then the end.
        due("1+2 reaches with bound heaps", 6, obliging(game(".3", "1+2"), 2).count(7));
        // The same heaps with the pass and without it are two positions.
        due("1p reaches", 4, game(".3", "1p").count(7));
        due("digests of the same position", game(".3", "1+2!+2p").digest(), game(".3", "2!+2+1p").digest());
    }

    // ---- History

    private static HeapGames recorded(int positions) {
        HeapGames game = new HeapGames();
        for (int i = 1; i <= positions; i++) {
            if (i <= 10) {
                game.place(1);
            } else {
                game.setPass(i % 2 == 1);
            }
        }
        return game;
    }

    @Sentence(at = "History", says = "A history of at most 30 positions is kept:")
    static void historyOf30And31() {
        due("after none", 0, recorded(0).count(5));
        due("after 29", 29, recorded(29).count(5));
        due("after 30", 30, recorded(30).count(5));
        due("after 31", 30, recorded(31).count(5));
        due("after 60", 30, recorded(60).count(5));
        due("after 61", 30, recorded(61).count(5));
        due("after 400", 30, recorded(400).count(5));
    }

    @Sentence(at = "History", says = "each call of place(), lift(), setPass() and readPosition() that returns no error, and "
            + "each move that is made, records the position before it,")
    static void historyRecordsEachChange() {
        dueRecord("place", 1, game -> game.place(3));
        dueRecord("lift", 1, game -> game.lift(1));
        dueRecord("setPass", 1, game -> game.setPass(false));
        dueRecord("setPass that changes nothing", 1, game -> game.setPass(true));
        dueRecord("readPosition", 1, game -> typed(game, "4!").readPosition());
        dueRecord("readPosition of the same", 1, game -> typed(game, "1+2p").readPosition());
        dueRecord("a taking", 1, game -> game.play(0));
        dueRecord("a growing", 1, game -> game.play(2));
        dueRecord("a passing", 1, game -> game.play(3));
        dueRecord("one best move", 1, game -> game.playOut(1));
        dueRecord("two best moves", 2, game -> game.playOut(2));
    }

    @Sentence(at = "History", says = "each call of place(), lift(), setPass() and readPosition() that returns no error")
    static void historyRecordsNothingElse() {
        dueRecord("place with an error", 0, game -> game.place(0));
        dueRecord("place with another error", 0, game -> game.place(8));
        dueRecord("lift with an error", 0, game -> game.lift(2));
        dueRecord("readPosition with an error", 0, game -> typed(game, "x").readPosition());
        dueRecord("play with an error", 0, game -> game.play(4));
        dueRecord("playOut with an error", 0, game -> game.playOut(0));
        dueRecord("questions", 0, game -> {
            game.outcomeWith(false);
            game.best();
            game.census(10, true, 1);
            game.move(0, 6);
            game.digest();
        });
        dueRecord("texts", 0, game -> typed(game, "12").erase());
    }

    /** After the change there are so many positions more, and as many undos lead back to 1+2p. */
    private static void dueRecord(String call, int more, Consumer<HeapGames> change) {
        HeapGames game = growing(game(".3", "1+2p"), 4);
        due("moves", 4, game.count(4));
        change.accept(game);
        due("history after " + call, 1 + more, game.count(5));
        for (int i = 0; i < more; i++) {
            due("undo of " + call, more - i, game.undo());
        }
        duePosition("after undo of " + call, "1+2p", game);
    }

    @Sentence(at = "History", says = "and when there are 30 already, the oldest one is dropped.")
    static void historyDropsTheOldest() {
        dueOldest(29, 0);
        dueOldest(30, 0);
        dueOldest(31, 1);
        dueOldest(32, 2);
        dueOldest(40, 10);
    }

    /** The oldest position that is kept has as many heaps of one counter as positions have been dropped. */
    private static void dueOldest(int positions, int dropped) {
        HeapGames game = recorded(positions);
        int left = Math.min(positions, 30);
        while (left > 0) {
            left--;
            due("undo after " + positions, left, game.undo());
        }
        due("undo of what was dropped", STATE, game.undo());
        due("heaps of the oldest after " + positions, dropped, game.count(0));
        due("place after it", dropped == 10 ? FULL : dropped + 1, game.place(1));
        due("history after it", dropped == 10 ? 0 : 1, game.count(5));
    }

    @Sentence(at = "History", says = "and when there are 30 already, the oldest one is dropped.")
    static void historyOfMoreThan30BestMoves() {
        HeapGames game = growing(game(".2", "1"), 2);
        due("an endless game", 40, game.playOut(40));
        due("history", 30, game.count(5));
        for (int left = 29; left >= 0; left--) {
            due("undo", left, game.undo());
            duePosition("after undo to " + left, left % 2 == 0 ? "1" : "2", game);
        }
        due("undo of what was dropped", STATE, game.undo());
    }

    @Sentence(at = "History", says = "Rules are no part of it.")
    static void historyWithoutRules() {
        HeapGames game = game(".3", "3");
        game.place(1);
        game.setDigit(1, 7);
        game.setObliging(2);
        game.setGrowing(4);
        game.setMisere(true);
        typed(game, "kayles").readRules();
        due("history", 2, game.count(5));
        due("undo", 1, game.undo());
        due("rule(2)", 7, game.rule(2));
        due("rule(11)", 2, game.rule(11));
        due("rule(12)", 4, game.rule(12));
        due("rule(13)", 1, game.rule(13));
    }

    // ---- Promise 10: place

    @Sentence(at = "Promise 10", says = "Adds a free heap.")
    static void promise10AddsAFreeHeap() {
        HeapGames game = game(".0", "2!p");
        game.place(2);
        duePosition("beside a bound one", "2+2!p", game);
        game.place(1);
        duePosition("before the others", "1+2+2!p", game);
        game.place(5);
        duePosition("behind the others", "1+2+2!+5p", game);
    }

    @Sentence(at = "Promise 10", says = "size: at least 1")
    static void promise10SizesFrom1() {
        HeapGames game = new HeapGames();
        due("place of the least", BAD, game.place(LEAST));
        due("place(-1)", BAD, game.place(-1));
        due("place(0)", BAD, game.place(0));
        due("place(1)", 1, game.place(1));
        due("place(9)", 2, game.place(9));
        due("place(0) when there is no room", BAD, game.place(0));
    }

    @Sentence(at = "Promise 10", says = "Returns the number of heaps; BAD; FULL if there would be more than 10 counters.")
    static void promise10FullAbove10() {
        for (int before = 0; before <= 9; before++) {
            HeapGames game = new HeapGames();
            if (before > 0) {
                game.place(before);
            }
            due("11 counters with " + before, FULL, game.place(11 - before));
            due("10 counters with " + before, before > 0 ? 2 : 1, game.place(10 - before));
            due("a counter more", FULL, game.place(1));
            due("the greatest number", FULL, game.place(GREATEST));
            due("one that wraps round with ten", FULL, game.place(GREATEST - 9));
            due("counters", 10, game.count(1));
        }
        due("the greatest number alone", FULL, new HeapGames().place(GREATEST));
        HeapGames bound = game(".0", "4!+5!");
        due("bound counters count", FULL, bound.place(2));
        due("bound heaps count", 3, bound.place(1));
    }

    // ---- Promise 11: lift

    @Sentence(at = "Promise 11", says = "Removes a heap.")
    static void promise11RemovesThisHeap() {
        String[] left = {"2+2!+4p", "1!+2!+4p", "1!+2+4p", "1!+2+2!p"};
        for (int heap = 0; heap < left.length; heap++) {
            HeapGames game = game(".0", "1!+2+2!+4p");
            game.lift(heap);
            duePosition("after lift(" + heap + ")", left[heap], game);
        }
    }

    @Sentence(at = "Promise 11", says = "heap: its number")
    static void promise11HeapsThatAreThere() {
        HeapGames game = game(".0", "1+2+4");
        due("lift(-1)", BAD, game.lift(-1));
        due("lift(3)", BAD, game.lift(3));
        due("lift of the least", BAD, game.lift(LEAST));
        due("lift of the greatest", BAD, game.lift(GREATEST));
        due("lift(2)", 4, game.lift(2));
        due("lift(2) again", BAD, game.lift(2));
        due("lift(0)", 1, game.lift(0));
        due("lift(1)", BAD, game.lift(1));
        due("lift(0)", 2, game.lift(0));
        due("lift(0) of none", BAD, game.lift(0));
    }

    @Sentence(at = "Promise 11", says = "Returns its size; BAD.")
    static void promise11ReturnsItsSize() {
        for (int size = 1; size <= 10; size++) {
            HeapGames game = new HeapGames();
            game.place(size);
            due("lift of " + size, size, game.lift(0));
            due("counters after it", 0, game.count(1));
        }
        HeapGames ones = game(".0", "1+1+1+1+1+1+1+1+1+1!");
        due("lift(9) of ten", 1, ones.lift(9));
        due("bound heaps after it", 0, ones.count(3));
        due("lift(9) of nine", BAD, ones.lift(9));
    }

    // ---- Promise 12: setPass

    @Sentence(at = "Promise 12", says = "Sets whether the pass is there.")
    static void promise12SetsThePassAlone() {
        HeapGames game = game(".0", "1!+3");
        game.setPass(true);
        duePosition("with it", "1!+3p", game);
        game.setPass(false);
        duePosition("without it", "1!+3", game);
    }

    @Sentence(at = "Promise 12", says = "there: whether it is")
    static void promise12TrueIsThere() {
        HeapGames game = new HeapGames();
        game.setPass(true);
        due("count(2) of true", 1, game.count(2));
        game.setPass(false);
        due("count(2) of false", 0, game.count(2));
    }

    @Sentence(at = "Promise 12", says = "Returns 1 if it was there before, otherwise 0.")
    static void promise12ReturnsWhetherItWasThere() {
        HeapGames game = new HeapGames();
        due("false at first", 0, game.setPass(false));
        due("true after false", 0, game.setPass(true));
        due("true after true", 1, game.setPass(true));
        due("false after true", 1, game.setPass(false));
        due("false after false", 0, game.setPass(false));
        HeapGames passed = game(".0", "1p");
        passed.play(0);
        due("after the pass was used", 0, passed.setPass(true));
    }

    // ---- Promise 14: heap

    @Sentence(at = "Promise 14", says = "Returns a property of a heap.")
    static void promise14ReturnsEachProperty() {
        int[][] heaps = {{1, 1, 1}, {4, 0, 1}, {4, 1, 1}};
        HeapGames game = game("kayles", "4!+1!+4");
        for (int i = 0; i < heaps.length; i++) {
            for (int what = 0; what <= 2; what++) {
                due("heap(" + i + ", " + what + ")", heaps[i][what], game.heap(i, what));
            }
        }
        due("of the least size", 1, game(".0", "1").heap(0, 0));
        due("of the greatest size", 10, game(".0", "10").heap(0, 0));
    }

    @Sentence(at = "Promise 14", says = "heap: its number")
    static void promise14HeapsThatAreThere() {
        HeapGames game = game("nim", "1+2");
        due("heap(-1, 0)", BAD, game.heap(-1, 0));
        due("heap(0, 0)", 1, game.heap(0, 0));
        due("heap(1, 0)", 2, game.heap(1, 0));
        due("heap(2, 0)", BAD, game.heap(2, 0));
        due("heap of the least", BAD, game.heap(LEAST, 0));
        due("heap of the greatest", BAD, game.heap(GREATEST, 0));
        HeapGames none = new HeapGames();
        due("heap(0, 0) of none", BAD, none.heap(0, 0));
        HeapGames ten = game(".0", "1+1+1+1+1+1+1+1+1+1!");
        due("heap(9, 1) of ten", 1, ten.heap(9, 1));
        due("heap(10, 1) of ten", BAD, ten.heap(10, 1));
    }

    @Sentence(at = "Promise 14", says = "what: 0: its size; 1: 1 if it is bound, otherwise 0; 2: its Grundy value")
    static void promise14WhatFrom0To2() {
        HeapGames game = game("nim", "3+7!");
        due("heap(0, -1)", BAD, game.heap(0, -1));
        due("heap(0, 0)", 3, game.heap(0, 0));
        due("heap(0, 1)", 0, game.heap(0, 1));
        due("heap(1, 1)", 1, game.heap(1, 1));
        due("heap(1, 2)", 7, game.heap(1, 2));
        due("heap(0, 2)", 3, game.heap(0, 2));
        due("heap(0, 3)", BAD, game.heap(0, 3));
        due("heap(0) of the least", BAD, game.heap(0, LEAST));
        due("heap(0) of the greatest", BAD, game.heap(0, GREATEST));
        game.setDigit(7, 0);
        due("heap(1, 2) by the digits at present", 0, game.heap(1, 2));
    }

    @Sentence(at = "Promise 14", says = "Returns the property; BAD.")
    static void promise14BadInBoth() {
        HeapGames game = game("nim", "3");
        due("heap(1, 3)", BAD, game.heap(1, 3));
        due("heap(-1, -1)", BAD, game.heap(-1, -1));
    }

    // ---- Promise 15: undo

    @Sentence(at = "Promise 15", says = "Restores the latest position of the history, and removes it from the history.")
    static void promise15RestoresTheLatest() {
        HeapGames game = game(".3", "1!+2p");
        game.place(4);
        game.lift(0);
        game.setPass(false);
        duePosition("at last", "2+4", game);
        game.undo();
        duePosition("before setPass", "2+4p", game);
        game.undo();
        duePosition("before lift", "1!+2+4p", game);
        game.undo();
        duePosition("before place", "1!+2p", game);
        game.undo();
        duePosition("before readPosition", "", game);
        due("history", 0, game.count(5));
    }

    @Sentence(at = "Promise 15", says = "Restores the latest position of the history, and removes it from the history.")
    static void promise15ChangesAgainAfterIt() {
        HeapGames game = new HeapGames();
        game.place(1);
        game.place(2);
        game.undo();
        game.place(3);
        duePosition("another way", "1+3", game);
        due("undo", 1, game.undo());
        duePosition("after undo", "1", game);
        due("undo", 0, game.undo());
        duePosition("after undo", "", game);
    }

    @Sentence(at = "Promise 15", says = "Returns how many positions are left in the history; STATE if there is none.")
    static void promise15ReturnsHowManyAreLeft() {
        HeapGames game = recorded(31);
        for (int left = 29; left >= 0; left--) {
            due("undo", left, game.undo());
            due("count(5)", left, game.count(5));
        }
        due("undo of none", STATE, game.undo());
        due("undo of none again", STATE, game.undo());
        game.setPass(true);
        due("undo of one", 0, game.undo());
        due("undo of none at last", STATE, game.undo());
        due("undo of a new object", STATE, new HeapGames().undo());
    }
}
