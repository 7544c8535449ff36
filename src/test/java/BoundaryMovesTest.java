/** The document's Moves, and the promises 16 and 17. */
public final class BoundaryMovesTest extends Boundaries {
    public static void main(String[] args) {
        runAll(BoundaryMovesTest.class);
    }

    private static int[] taking(int size, int k, int smaller, int greater) {
        return new int[] {0, size, k, smaller, greater};
    }

    private static int[] growth(int size) {
        return new int[] {1, size, 0, 0, size + 1};
    }

    private static int[] pass() {
        return new int[] {2, 0, 0, 0, 0};
    }

    private static void dueAfter(HeapGames game, int move, String position) {
        String before = positionOf(game);
        game.play(move);
        duePosition("move " + move + " of " + before, position, game);
        game.undo();
    }

    // ---- Moves: which heaps

    @Sentence(at = "Moves", says = "If any heap is bound, the player has to move in a bound heap; otherwise in any heap.")
    static void movesInBoundHeapsIfThereAreAny() {
        dueMoves("none is bound", game(".3", "1+2"), taking(1, 1, 0, 0), taking(2, 1, 0, 1));
        dueMoves("the first is bound", game(".3", "1!+2"), taking(1, 1, 0, 0));
        dueMoves("the last is bound", game(".3", "1+2!"), taking(2, 1, 0, 1));
        dueMoves("all are bound", game(".3", "1!+2!"), taking(1, 1, 0, 0), taking(2, 1, 0, 1));
        dueMoves("two of three are bound", game(".3", "1!+2+3!"), taking(1, 1, 0, 0), taking(3, 1, 0, 2));
        dueMoves("a bound heap without moves", game(".01", "1!+2"));
        dueMoves("one of the bound heaps has a move", game(".01", "1!+2!"), taking(2, 2, 0, 0));
        dueMoves("no heaps", game("nim", ""));
        dueMoves("growing in bound heaps alone", growing(game(".0", "1+2!"), 6), growth(2));
    }

    @Sentence(at = "Moves", says = "A player moves in a heap by one of the following:")
    static void movesOfTwoKindsInAHeap() {
        dueMoves("of both kinds", growing(game(".1", "1"), 2), taking(1, 1, 0, 0), growth(1));
        dueMoves("of neither kind", growing(game(".2", "1"), 4));
    }

    // ---- Moves: taking

    @Sentence(at = "Moves", says = "taking (kind 0): k counters are taken as the digit of k allows, so that the heap is gone, "
            + "is left as one, or is split.")
    static void movesTakeAsTheDigitAllows() {
        dueMoves("one", game(".7", "1"), taking(1, 1, 0, 0));
        dueMoves("two", game(".7", "2"), taking(2, 1, 0, 1));
        dueMoves("three", game(".7", "3"), taking(3, 1, 0, 2), taking(3, 1, 1, 1));
        dueMoves("more than there are", game(".007", "2"));
        HeapGames game = game(".7", "1+3+4");
        dueAfter(game, 0, "3+4");
        dueAfter(game, 1, "1+2+4");
        dueAfter(game, 2, "1+1+1+4");
        dueAfter(game, 3, "1+3+3");
        dueAfter(game, 4, "1+1+2+3");
        due("moves", 5, game.count(4));
    }

    @Sentence(at = "Moves", says = "If k obliges, the heap or heaps that are left of it are bound; otherwise they are free.")
    static void movesObligeByTheNumber() {
        for (int k = 1; k <= 10; k++) {
            HeapGames game = obliging(game("nim", "10"), 1 << k);
            for (int taken = 1; taken <= 9; taken++) {
                dueAfter(game, taken - 1, (10 - taken) + (taken == k ? "!" : ""));
            }
            dueAfter(game, 9, "");
        }
        HeapGames split = obliging(game(".44", "5"), 2);
        dueAfter(split, 0, "1!+3!");
        dueAfter(split, 1, "2!+2!");
        dueAfter(split, 2, "1+2");
        HeapGames gone = obliging(game(".1", "1+3"), 2);
        dueAfter(gone, 0, "3");
        HeapGames bound = obliging(game(".33", "3!+4"), 4);
        dueAfter(bound, 0, "2+4");
        dueAfter(bound, 1, "1!+4");
    }

    // ---- Moves: growing

    @Sentence(at = "Moves", says = "growing (kind 1): one counter is added to the heap, if its size is in the set of sizes, "
            + "and there are at most 9 counters in all heaps together.")
    static void movesGrowUpToTenCounters() {
        dueMoves("nine counters", growing(game(".0", "9"), 1022), growth(9));
        dueMoves("ten counters", growing(game(".0", "10"), 1022));
        dueMoves("nine counters in two heaps", growing(game(".0", "4+5"), 1022), growth(4), growth(5));
        dueMoves("ten counters in two heaps", growing(game(".0", "5+5"), 1022));
        dueMoves("ten counters in two sizes", growing(game(".0", "1+9"), 1022));
        dueMoves("eight counters", growing(game(".0", "8"), 256), growth(8));
        dueMoves("a size that is not in the set", growing(game(".0", "8"), 1022 & ~256));
        dueMoves("one of two sizes", growing(game(".0", "1+2"), 4), growth(2));
        dueMoves("no sizes", growing(game(".0", "1+2"), 0));
        HeapGames game = growing(game(".0", "1+2+6"), 1022);
        dueAfter(game, 0, "2+2+6");
        dueAfter(game, 1, "1+3+6");
        dueAfter(game, 2, "1+2+7");
        game.play(2);
        due("no growing after it", 0, game.count(4));
    }

    @Sentence(at = "Moves", says = "The heap is free then.")
    static void movesFreeAHeapThatGrows() {
        HeapGames game = obliging(growing(game(".0", "2+2!+3!"), 4), 2046);
        dueMoves("the bound ones", game, growth(2));
        dueAfter(game, 0, "2+3+3");
        dueAfter(growing(game(".0", "9!"), 512), 0, "10");
    }

    // ---- Moves: the pass

    @Sentence(at = "Moves", says = "If no heap is bound, and there is at least one heap, and the pass is there, the player may "
            + "pass instead (kind 2):")
    static void movesPassIfThePassIsThere() {
        dueMoves("no pass", game(".0", "1"));
        dueMoves("the pass and one heap", game(".0", "1p"), pass());
        dueMoves("the pass and no heap", game(".0", "p"));
        dueMoves("the pass and a bound heap", game(".0", "1!p"));
        dueMoves("the pass, a bound heap and a free one", game(".0", "1!+2p"));
        dueMoves("the pass and free heaps", game(".0", "1+2p"), pass());
        dueMoves("the pass beside others", game(".1", "1p"), taking(1, 1, 0, 0), pass());
        dueMoves("the pass with ten counters", growing(game(".0", "10p"), 1022), pass());
    }

    @Sentence(at = "Moves", says = "the pass is not there any more, nothing else changes.")
    static void movesPassOnce() {
        HeapGames game = game(".3", "1+2+2p");
        due("counters after the pass", 5, game.play(2));
        duePosition("after the pass", "1+2+2", game);
        dueMoves("no second pass", game, taking(1, 1, 0, 0), taking(2, 1, 0, 1));
        HeapGames taken = game(".3", "1+2p");
        dueAfter(taken, 0, "2p");
        dueAfter(taken, 1, "1+1p");
        dueAfter(growing(game(".0", "1p"), 2), 0, "2p");
    }

    // ---- Moves: what becomes of the other heaps

    @Sentence(at = "Moves", says = "All heaps in which no move was made become free after any move.")
    static void movesFreeTheOtherHeaps() {
        HeapGames game = growing(game(".3", "1+2!+3!+3!"), 8);
        dueMoves("the bound ones", game, taking(2, 1, 0, 1), taking(3, 1, 0, 2), growth(3));
        dueAfter(game, 0, "1+1+3+3");
        dueAfter(game, 1, "1+2+2+3");
        HeapGames obliged = obliging(game(".3", "1!+2!+3+3!"), 2);
        dueAfter(obliged, 0, "2+3+3");
        dueAfter(obliged, 1, "1+1!+3+3");
        dueAfter(obliged, 2, "1+2+2!+3");
        dueAfter(growing(game(".0", "1!+2!+3!"), 2), 0, "2+2+3");
    }

    // ---- Moves: their numbers

    @Sentence(at = "Moves", says = "Moves are numbered from 0.")
    static void movesFromZero() {
        HeapGames game = game("nim", "3");
        due("move(-1, 2)", BAD, game.move(-1, 2));
        due("move(0, 2)", 1, game.move(0, 2));
        due("move(1, 2)", 2, game.move(1, 2));
        due("move(2, 2)", 3, game.move(2, 2));
        due("move(3, 2)", BAD, game.move(3, 2));
    }

    @Sentence(at = "Moves", says = "Of the heaps of the same size in which the player may move, only the first one counts.")
    static void movesInTheFirstHeapOfEachSize() {
        dueMoves("two of one size", game(".3", "2+2"), taking(2, 1, 0, 1));
        dueMoves("ten of one size", game(".3", "1+1+1+1+1+1+1+1+1+1"), taking(1, 1, 0, 0));
        dueMoves("two bound ones", game(".3", "2!+2!"), taking(2, 1, 0, 1));
        dueMoves("two sizes, twice each", game(".3", "1+1+3+3"), taking(1, 1, 0, 0), taking(3, 1, 0, 2));
        dueMoves("growing, too", growing(game(".0", "2+2+3+2"), 4), growth(2));
        HeapGames free = game(".3", "2+2+2!");
        dueMoves("a bound one behind free ones", free, taking(2, 1, 0, 1));
        dueAfter(obliging(free, 2), 0, "1!+2+2");
        dueAfter(obliging(game(".3", "3+3"), 2), 0, "2!+3");
    }

    @Sentence(at = "Moves", says = "The moves are ordered: first those of kind 0, by ascending sizes of heaps, then by ascending "
            + "k, then by the smaller part that is left (0 for a heap that is gone or left as one); then those of kind 1, "
            + "by ascending sizes of heaps; then that of kind 2.")
    static void movesAreOrdered() {
        dueMoves("all kinds", growing(game(".77", "4+1+4p"), 18), taking(1, 1, 0, 0), taking(4, 1, 0, 3),
                taking(4, 1, 1, 2), taking(4, 2, 0, 2), taking(4, 2, 1, 1), growth(1), growth(4), pass());
        dueMoves("splits by the smaller part", game(".4", "8"), taking(8, 1, 1, 6), taking(8, 1, 2, 5),
                taking(8, 1, 3, 4));
        dueMoves("the size before k", game(".0031", "4+3"), taking(3, 3, 0, 0), taking(4, 3, 0, 1), taking(4, 4, 0, 0));
        HeapGames most = game(".7777777777", "10p");
        due("the most moves", 31, most.count(4));
        int move = 0;
        for (int k = 1; k <= 10; k++) {
            for (int smaller = 0; smaller <= (10 - k) / 2; smaller++) {
                int[] properties = taking(10, k, smaller, 10 - k - smaller);
                for (int what = 0; what <= 4; what++) {
                    due("move(" + move + ", " + what + ")", properties[what], most.move(move, what));
                }
                move++;
            }
        }
        due("the pass at last", 2, most.move(move, 0));
        due("a move more", BAD, most.move(move + 1, 0));
    }

    // ---- Promise 16: move

    @Sentence(at = "Promise 16", says = "Returns a property of a move.")
    static void promise16ReturnsEachProperty() {
        // 1 and 2 of nim: the only good move is 2 -> 1, and 1+1 ends after two moves more.
        dueMoves("nim 1+2", game("nim", "1+2"), new int[] {0, 1, 1, 0, 0, 1, 1}, new int[] {0, 2, 1, 0, 1, 0, 2},
                new int[] {0, 2, 2, 0, 0, 1, 1});
    }

    @Sentence(at = "Promise 16", says = "move: its number")
    static void promise16MovesThatAreThere() {
        HeapGames game = game("nim", "1+2p");
        due("move(-1, 0)", BAD, game.move(-1, 0));
        due("move(0, 0)", 0, game.move(0, 0));
        due("move(3, 0)", 2, game.move(3, 0));
        due("move(4, 0)", BAD, game.move(4, 0));
        due("move of the least", BAD, game.move(LEAST, 0));
        due("move of the greatest", BAD, game.move(GREATEST, 0));
        due("move(0, 0) of none", BAD, new HeapGames().move(0, 0));
        game.play(3);
        due("move(3, 0) after the pass", BAD, game.move(3, 0));
        game.undo();
        game.setDigit(1, 0);
        due("move(1, 0) with fewer digits", 2, game.move(1, 0));
        due("move(2, 0) with fewer digits", BAD, game.move(2, 0));
    }

    @Sentence(at = "Promise 16", says = "what: 0: its kind; 1: the size of the heap in which it is made (0 for a pass); 2: the "
            + "number k (0 for another kind); 3 and 4: the smaller and the greater part that is left of the heap (0 and "
            + "the size that is left, if it is left as one or grows; 0 and 0 if it is gone, or for a pass);")
    static void promise16WhatFrom0To4() {
        HeapGames game = growing(game(".07", "2+4p"), 4);
        dueMoves("gone, left, split, growing and passing", game, taking(2, 2, 0, 0), taking(4, 2, 0, 2),
                taking(4, 2, 1, 1), growth(2), pass());
        dueMoves("unequal parts", game(".004", "8"), taking(8, 3, 1, 4), taking(8, 3, 2, 3));
        dueMoves("growing to ten", growing(game(".0", "9"), 512), growth(9));
        due("move(0, -1)", BAD, game.move(0, -1));
        due("move(0) of the least", BAD, game.move(0, LEAST));
    }

    @Sentence(at = "Promise 16", says = "5: the outcome of the position to which it leads; 6: the distance of that position "
            + "(NONE for a draw)")
    static void promise16Outcomes() {
        // 2 can lead to 1, which is won, or grow to 3, from which only 2 can be reached again.
        HeapGames game = growing(game(".3", "2"), 4);
        due("move(0, 5)", 1, game.move(0, 5));
        due("move(0, 6)", 1, game.move(0, 6));
        due("move(1, 5)", 2, game.move(1, 5));
        due("move(1, 6)", NONE, game.move(1, 6));
        due("move(1, 7)", BAD, game.move(1, 7));
        due("move(1) of the greatest", BAD, game.move(1, GREATEST));
        // The empty position is lost in usual play and won in misere play, at once.
        HeapGames last = game(".1", "1");
        due("move(0, 5) to the end", 0, last.move(0, 5));
        due("move(0, 6) to the end", 0, last.move(0, 6));
        misere(last);
        due("move(0, 5) to the misere end", 1, last.move(0, 5));
        due("move(0, 6) to the misere end", 0, last.move(0, 6));
    }

    @Sentence(at = "Promise 16", says = "Returns the property; BAD.")
    static void promise16BadInBoth() {
        HeapGames game = game("nim", "1");
        due("move(1, 7)", BAD, game.move(1, 7));
        due("move(-1, -1)", BAD, game.move(-1, -1));
        due("move(0, 7)", BAD, game.move(0, 7));
    }

    // ---- Promise 17: play

    @Sentence(at = "Promise 17", says = "Makes a move.")
    static void promise17MakesTheMove() {
        HeapGames game = obliging(growing(game(".7", "2+4p"), 4), 2);
        dueMoves("before", game, taking(2, 1, 0, 1), taking(4, 1, 0, 3), taking(4, 1, 1, 2), growth(2), pass());
        dueAfter(game, 0, "1!+4p");
        dueAfter(game, 1, "2+3!p");
        dueAfter(game, 2, "1!+2+2!p");
        dueAfter(game, 3, "3+4p");
        dueAfter(game, 4, "2+4");
        game.play(0);
        due("history", 2, game.count(5));
    }

    @Sentence(at = "Promise 17", says = "move: its number")
    static void promise17MovesThatAreThere() {
        HeapGames game = game("nim", "3");
        due("play(-1)", BAD, game.play(-1));
        due("play(3)", BAD, game.play(3));
        due("play of the least", BAD, game.play(LEAST));
        due("play of the greatest", BAD, game.play(GREATEST));
        due("play(2)", 0, game.play(2));
        due("play(0) at the end", BAD, game.play(0));
        due("history", 2, game.count(5));
    }

    @Sentence(at = "Promise 17", says = "Returns the number of counters that are left; BAD.")
    static void promise17ReturnsTheCountersInAllHeaps() {
        due("the last heap is gone", 0, game(".1", "1").play(0));
        due("another heap stays", 7, game(".1", "1+7").play(0));
        due("left as one", 9, game(".2", "10").play(0));
        due("split", 9, game(".4", "10").play(0));
        due("ten taken", 0, game(".0000000001", "10").play(0));
        due("grown", 10, growing(game(".0", "4+5"), 16).play(0));
        due("passed", 10, game(".0", "4+6p").play(0));
        due("no move", BAD, game(".0", "4+6").play(0));
    }
}
