import java.math.BigInteger;
import java.util.Arrays;

/** The document's Grundy values, and the promises 25 to 29. */
public final class BoundaryValuesTest extends Boundaries {
    public static void main(String[] args) {
        runAll(BoundaryValuesTest.class);
    }

    private static int[] valuesOf(HeapGames game) {
        int[] values = new int[61];
        for (int size = 0; size <= 60; size++) {
            values[size] = game.grundy(size);
        }
        return values;
    }

    private static void dueValues(String rules, int... values) {
        HeapGames game = game(rules, "");
        for (int size = 0; size < values.length; size++) {
            due("value of " + size + " by " + rules, values[size], game.grundy(size));
        }
    }

    // ---- Grundy values

    @Sentence(at = "Grundy values", says = "They belong to the digits alone (usual play, without obliging, growing and "
            + "passing).")
    static void grundyByTheDigitsAlone() {
        HeapGames game = game("kayles", "5");
        int[] before = valuesOf(game);
        misere(growing(obliging(game, 2046), 1022)).setPass(true);
        int[] after = valuesOf(game);
        for (int size = 0; size <= 60; size++) {
            due("value of " + size, before[size], after[size]);
        }
        due("nimSum", 4, game.nimSum());
        due("heap(0, 2)", 4, game.heap(0, 2));
        due("period(0)", NONE, game.period(0));
        typed(game, "nim").readRules();
        due("value of 5 by other digits", 5, game.grundy(5));
        game.setDigit(5, 0);
        due("value of 5 by one other digit", 0, game.grundy(5));
    }

    @Sentence(at = "Grundy values", says = "They belong to the digits alone")
    static void grundyByTheDigitsAtPresent() {
        String[] rules = {"nim", ".7777777777", "kayles", ".0", ".3", "dawson", ".2", "nim"};
        HeapGames game = new HeapGames();
        for (String rule : rules) {
            typed(game, rule).readRules();
            HeapGames fresh = game(rule, "");
            for (int size = 60; size >= 54; size--) {
                due("value of " + size + " by " + rule, fresh.grundy(size), game.grundy(size));
            }
        }
        HeapGames none = game("nim", "");
        due("value of 60 by nim", 5, none.grundy(60));
        typed(none, ".0").readRules();
        due("value of 60 without moves", 0, none.grundy(60));
    }

    @Sentence(at = "Grundy values", says = "The value of a heap of n counters, n from 0 to 60, is the least number from 0 on "
            + "that is not the value of any result of a move in it, the value of two heaps being the exclusive or of their "
            + "values.")
    static void grundyFrom0To60() {
        dueValues(".0", new int[61]);
        dueValues("nim", 0, 1, 2, 3, 4, 5, 6, 7, 8, 9, 10, 0, 1);
        dueValues("kayles", 0, 1, 2, 3, 1, 4, 3, 2, 1, 4, 2, 6, 4, 1, 2, 7, 1, 4, 3, 2, 1, 4, 6, 7);
        dueValues("dawson", 0, 1, 1, 2, 0, 3, 1, 1, 0, 3, 3, 2, 2, 4, 0, 5, 2, 2, 3, 3, 0, 1, 1, 3, 0, 2, 1, 1);
        due("nim, 60", 5, game("nim", "").grundy(60));
        due(".3, 59", 1, game(".3", "").grundy(59));
        due(".3, 60", 0, game(".3", "").grundy(60));
        // From three by .7: 2 and 1+1, of the values 0 and 1 ^ 1, so the least that is missing is 1.
        dueValues(".7", 0, 1, 0, 1, 0, 1, 0);
        // Only splits: three gives 1+1, four 1+2, five 1+3 and 2+2.
        dueValues(".4", 0, 0, 0, 1, 1, 2, 0);
    }

    @Sentence(at = "Grundy values", says = "As in the game, only the numbers k from 1 to 10 are taken.")
    static void grundyOfTakingsUpTo10() {
        dueValues(".0000000001", 0, 0, 0, 0, 0, 0, 0, 0, 0, 0, 1, 0, 0);
        dueValues(".0000000002", 0, 0, 0, 0, 0, 0, 0, 0, 0, 0, 0, 1, 1);
        dueValues(".0000000004", 0, 0, 0, 0, 0, 0, 0, 0, 0, 0, 0, 0, 1);
        due("nim, 10", 10, game("nim", "").grundy(10));
        due("nim, 11", 0, game("nim", "").grundy(11));
        due("nim, 22", 0, game("nim", "").grundy(22));
        due("nim, 21", 10, game("nim", "").grundy(21));
    }

    // ---- Promise 25: grundy

    @Sentence(at = "Promise 25", says = "Returns the Grundy value of a heap.")
    static void promise25OfHeapsThatNeedNotBeThere() {
        HeapGames game = game("nim", "3");
        due("of the heap that is there", 3, game.grundy(3));
        due("of one that is not", 7, game.grundy(7));
        due("of one that could not be", 4, game.grundy(15));
        dueWithoutChange("grundy(60)", 5, () -> game("nim", "3!p"), one -> one.grundy(60));
    }

    @Sentence(at = "Promise 25", says = "size: 0 to 60")
    static void promise25SizesFrom0To60() {
        HeapGames game = game("nim", "");
        due("grundy(-1)", BAD, game.grundy(-1));
        due("grundy(0)", 0, game.grundy(0));
        due("grundy(1)", 1, game.grundy(1));
        due("grundy(59)", 4, game.grundy(59));
        due("grundy(60)", 5, game.grundy(60));
        due("grundy(61)", BAD, game.grundy(61));
    }

    @Sentence(at = "Promise 25", says = "Returns the value; BAD.")
    static void promise25BadFarAway() {
        HeapGames game = game("nim", "");
        due("grundy of the least", BAD, game.grundy(LEAST));
        due("grundy of the greatest", BAD, game.grundy(GREATEST));
        due("grundy(1000)", BAD, game.grundy(1000));
        due("grundy(0) by no digits", 0, new HeapGames().grundy(0));
    }

    // ---- Promise 26: nimSum

    @Sentence(at = "Promise 26", says = "Returns the exclusive or of the Grundy values of all heaps.")
    static void promise26OfAllHeaps() {
        due("nim 1+2+4", 7, game("nim", "1+2+4").nimSum());
        due("nim 3+5", 6, game("nim", "3+5").nimSum());
        due("bound heaps, too", 7, game("nim", "1!+2+4!p").nimSum());
        due("values, not sizes", 5, game("kayles", "4+5").nimSum());
        due("equal heaps", 0, game("nim", "5+5").nimSum());
    }

    @Sentence(at = "Promise 26", says = "Returns the value.")
    static void promise26FromNoHeapsToTen() {
        due("no heaps", 0, game("nim", "").nimSum());
        due("one heap", 10, game("nim", "10").nimSum());
        due("nine heaps", 1, game("nim", "1+1+1+1+1+1+1+1+1").nimSum());
        due("ten heaps", 0, game("nim", "1+1+1+1+1+1+1+1+1+1").nimSum());
        due("no digits", 0, game(".0", "1+2").nimSum());
    }

    // ---- Promise 27: period

    /** The least s such that the values of n and n + p are equal for all n from s to 60 - p. */
    private static int startOf(int[] values, int p) {
        int start = 0;
        for (int n = 0; n <= 60 - p; n++) {
            if (values[n] != values[n + p]) {
                start = n + 1;
            }
        }
        return start;
    }

    private static void duePeriod(String rules, int length, int start) {
        HeapGames game = game(rules, "");
        due("period(0) of " + rules, length, game.period(0));
        due("period(1) of " + rules, start, game.period(1));
    }

    @Sentence(at = "Promise 27", says = "Finds the period of the Grundy values: the least p from 1 to 20 such that for some s "
            + "from 0 to 20 the values of n and n + p are equal for all n from s to 60 - p; for this p the least such s.")
    static void promise27TheLeastPAndItsLeastS() {
        duePeriod(".0", 1, 0);
        duePeriod(".1", 1, 2);
        duePeriod(".2", 2, 1);
        duePeriod(".3", 2, 0);
        duePeriod(".33", 3, 0);
        duePeriod("nim", 11, 0);
        duePeriod("guiles", 10, 1);
        duePeriod(".0000000001", 1, 11);
        String[] rules = {"nim", "kayles", "dawson", "guiles", ".4", ".6", ".15", ".0777", ".0322711", ".3040701053",
            ".07", ".1000145002", ".023701", ".1000232620", ".77", ".7777777777", ".0000000007", ".5", ".355"};
        for (String rule : rules) {
            int[] values = valuesOf(game(rule, ""));
            int p = 1;
            while (p <= 20 && startOf(values, p) > 20) {
                p++;
            }
            duePeriod(rule, p <= 20 ? p : NONE, p <= 20 ? startOf(values, p) : NONE);
        }
    }

    @Sentence(at = "Promise 27", says = "the least p from 1 to 20")
    static void promise27PeriodsOf20And21() {
        due("a period of 20 starts at", 0, startOf(valuesOf(game(".3040701053", "")), 20));
        duePeriod(".3040701053", 20, 0);
        int[] longer = valuesOf(game(".1000145002", ""));
        due("a period of 21 starts before 21", 1, startOf(longer, 21) <= 20 ? 1 : 0);
        duePeriod(".1000145002", NONE, NONE);
        duePeriod(".0", 1, 0);
    }

    @Sentence(at = "Promise 27", says = "such that for some s from 0 to 20")
    static void promise27StartsOf20And21() {
        due("a period of 8 starts at", 20, startOf(valuesOf(game(".0322711", "")), 8));
        duePeriod(".0322711", 8, 20);
        due("another one of 8 starts at", 21, startOf(valuesOf(game(".023701", "")), 8));
        duePeriod(".023701", NONE, NONE);
        duePeriod("nim", 11, 0);
    }

    @Sentence(at = "Promise 27", says = "are equal for all n from s to 60 - p;")
    static void promise27UpToTheValueOf60() {
        int[] values = valuesOf(game(".1000232620", ""));
        due("only the value of 60 breaks a period of 18", 43, startOf(values, 18));
        values[60] = values[42];
        due("it would start before 21", 1, startOf(values, 18) <= 20 ? 1 : 0);
        duePeriod(".1000232620", NONE, NONE);
    }

    @Sentence(at = "Promise 27", says = "what: 0: p; 1: s")
    static void promise27WhatFrom0To1() {
        HeapGames game = game("guiles", "");
        due("period(-1)", BAD, game.period(-1));
        due("period(0)", 10, game.period(0));
        due("period(1)", 1, game.period(1));
        due("period(2)", BAD, game.period(2));
        due("period(1) asked first", 1, game("guiles", "").period(1));
        game.setDigit(2, 0);
        due("period(1) asked first after a change", 2, game.period(1));
        due("period(0) after it", 1, game.period(0));
        due("period of the least", BAD, game.period(LEAST));
        due("period of the greatest", BAD, game.period(GREATEST));
    }

    @Sentence(at = "Promise 27", says = "Returns the number; BAD; NONE if there is no such p.")
    static void promise27NoneWithoutAPeriod() {
        HeapGames game = game("kayles", "");
        due("period(0)", NONE, game.period(0));
        due("period(1)", NONE, game.period(1));
        due("period(2)", BAD, game.period(2));
        game.setDigit(2, 0);
        due("period(0) with another digit", 2, game.period(0));
        due("period(1) with another digit", 0, game.period(1));
    }

    // ---- Promise 28: count

    @Sentence(at = "Promise 28", says = "Returns a number.")
    static void promise28EachNumber() {
        HeapGames game = typed(game("nim", "1!+2!+4p"), "ab");
        int[] numbers = {3, 7, 1, 2, 3, 1, 2};
        for (int what = 0; what <= 6; what++) {
            due("count(" + what + ")", numbers[what], game.count(what));
        }
    }

    @Sentence(at = "Promise 28", says = "what: 0: heaps; 1: counters; 2: 1 if the pass is there, otherwise 0; 3: bound heaps; "
            + "4: moves; 5: positions in the history; 6: bytes of the text;")
    static void promise28LeastAndGreatestNumbers() {
        HeapGames least = new HeapGames();
        for (int what = 0; what <= 6; what++) {
            due("count(" + what + ") at first", 0, least.count(what));
        }
        HeapGames most = typed(new HeapGames(), "1!+1!+1!+1!+1!+1!+1!+1!+1!+1!p");
        most.readPosition();
        for (int i = 0; i < 40; i++) {
            most.setPass(true);
        }
        typed(most, "x".repeat(40));
        int[] numbers = {10, 10, 1, 10, 0, 30, 40};
        for (int what = 0; what <= 6; what++) {
            due("count(" + what + ") at most", numbers[what], most.count(what));
        }
        due("count(4) at most", 31, game(".7777777777", "10p").count(4));
        due("count(-1)", BAD, most.count(-1));
        due("count(8)", BAD, most.count(8));
    }

    @Sentence(at = "Promise 28", says = "7: the number of different positions that can be reached by moves, this one included")
    static void promise28ReachablePositions() {
        due("no move", 1, game(".0", "3").count(7));
        due("one move", 2, game(".0", "3p").count(7));
        due("no heaps", 1, game("nim", "p").count(7));
        // 1+2, 2, 1+1, 1 and the end.
        due("nim 1+2", 5, game("nim", "1+2").count(7));
        // The same with the pass and without it.
        due("nim 1+2p", 10, game("nim", "1+2p").count(7));
        // 1+2!, 1+1, 1 and the end.
        due("nim 1+2!", 4, game("nim", "1+2!").count(7));
        // 3, 2!, 1! and the end.
        due("obliging 3", 4, obliging(game(".3", "3"), 2).count(7));
        HeapGames cycle = growing(game(".2", "2"), 2);
        due("a cycle of two", 2, cycle.count(7));
        cycle.play(0);
        due("a cycle of two from the other", 2, cycle.count(7));
        HeapGames part = growing(game(".3", "2"), 4);
        due("3, 2, 1 and the end", 4, part.count(7));
        part.play(0);
        due("1 and the end", 2, part.count(7));
        part.undo();
        part.setGrowing(0);
        due("2, 1 and the end", 3, part.count(7));
    }

    @Sentence(at = "Promise 28", says = "Returns the number; BAD.")
    static void promise28BadOutside() {
        HeapGames game = game("nim", "1");
        due("count(-1)", BAD, game.count(-1));
        due("count(0)", 1, game.count(0));
        due("count(7)", 2, game.count(7));
        due("count(8)", BAD, game.count(8));
        due("count of the least", BAD, game.count(LEAST));
        due("count of the greatest", BAD, game.count(GREATEST));
    }

    // ---- Promise 29: digest

    private static long hashOf(int[]... numbers) {
        BigInteger hash = BigInteger.valueOf(475);
        for (int[] some : numbers) {
            for (int number : some) {
                hash = hash.multiply(BigInteger.valueOf(31)).add(BigInteger.valueOf(number));
            }
        }
        if (hash.bitLength() < 64) {
            fail("the hash does not overflow");
        }
        return hash.longValue();
    }

    private static int[] grundyOf(int... first) {
        return Arrays.copyOf(first, 61);
    }

    @Sentence(at = "Promise 29", says = "Returns a hash.")
    static void promise29OfANewObject() {
        long want = hashOf(new int[13], new int[] {0, 0, 0, 0, 0, 0, 0, 1}, new int[] {0, 0, NONE, 0},
                new int[] {1, 0}, grundyOf());
        due("digest", want, new HeapGames().digest());
    }

    @Sentence(at = "Promise 29", says = "It is 475 at first; for each of the following numbers, in this order, it becomes 31 "
            + "times itself plus the number (long arithmetic with overflow): rule(1) to rule(13); count(0) to count(7); for "
            + "each heap heap(i, 0) to heap(i, 2); for each move move(i, 0) to move(i, 6); outcome(), distance(), best(), "
            + "good(); period(0) and period(1); grundy(0) to grundy(60); the bytes of the text.")
    static void promise29InThisOrder() {
        long small = hashOf(new int[] {1, 0, 0, 0, 0, 0, 0, 0, 0, 0, 0, 0, 0}, new int[] {1, 1, 0, 0, 1, 1, 1, 2},
                new int[] {1, 0, 1}, new int[] {0, 1, 1, 0, 0, 0, 0}, new int[] {1, 1, 0, 1}, new int[] {1, 2},
                grundyOf(0, 1), new int[] {'A'});
        due("digest of .1 and 1", small, typed(game(".1", "1"), "A").digest());
        int[] twos = new int[61];
        for (int size = 1; size <= 60; size += 2) {
            twos[size] = 1;
        }
        long drawn = hashOf(new int[] {3, 0, 0, 0, 0, 0, 0, 0, 0, 0, 0, 4, 0}, new int[] {1, 2, 0, 0, 2, 1, 0, 4},
                new int[] {2, 0, 0}, new int[] {0, 2, 1, 0, 1, 1, 1}, new int[] {1, 2, 0, 0, 3, 2, NONE},
                new int[] {2, NONE, 1, 1}, new int[] {2, 0}, twos);
        due("digest of a draw", drawn, growing(game(".3", "2"), 4).digest());
        long ended = hashOf(new int[] {0, 0, 0, 0, 0, 0, 0, 0, 0, 1, 1024, 512, 1}, new int[] {2, 5, 1, 1, 0, 1, 4, 1},
                new int[] {2, 1, 0, 3, 0, 0}, new int[] {1, 0, NONE, 0}, new int[] {1, 11},
                grundyOf(0, 0, 0, 0, 0, 0, 0, 0, 0, 0, 1), new int[] {0, 127, ' ', 'p'});
        HeapGames game = misere(growing(obliging(game(".0000000001", "2!+3p"), 1024), 512));
        due("digest of an end", ended, typed(game, "\0\u007f p").digest());
    }

    @Sentence(at = "Promise 29", says = "the bytes of the text.")
    static void promise29WithATextOf40Bytes() {
        HeapGames game = new HeapGames();
        int[] bytes = new int[40];
        for (int i = 0; i < 40; i++) {
            bytes[i] = 127 - i;
            game.type(127 - i);
        }
        game.type('x');
        long want = hashOf(new int[13], new int[] {0, 0, 0, 0, 0, 0, 40, 1}, new int[] {0, 0, NONE, 0},
                new int[] {1, 0}, grundyOf(), bytes);
        due("digest with 40 bytes", want, game.digest());
        game.erase();
        due("digest without them", new HeapGames().digest(), game.digest());
    }

    @Sentence(at = "Promise 29", says = "Returns the hash.")
    static void promise29ChangesNothing() {
        dueWithoutChange("digest", typed(game("kayles", "1!+5p"), "9").digest(),
                () -> typed(game("kayles", "1!+5p"), "9"), HeapGames::digest);
    }
}
