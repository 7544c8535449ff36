/** What the document promises, promise by promise: ordinary inputs, the edges that it names, and wrong inputs. */
public final class PromisesTest {
    private static final int NONE = -1, BAD = -2, STATE = -3, FULL = -4;
    private static int wrong = 0;

    public static void main(String[] args) {
        constants();
        newObject();
        digits();
        obliging();
        growing();
        misere();
        typing();
        erasing();
        rulesTexts();
        ruleOf();
        placing();
        lifting();
        passing();
        positionTexts();
        heapProperties();
        undoing();
        historyLimit();
        moveProperties();
        moveOrder();
        boundHeaps();
        playing();
        outcomes();
        distances();
        bestMoves();
        goodMoves();
        changedRules();
        playingOut();
        outcomesWith();
        censuses();
        grundyValues();
        nimSums();
        periods();
        counts();
        digests();
        System.out.println(wrong == 0 ? "all promises are kept" : wrong + " answers are not as due");
        if (wrong != 0) {
            System.exit(1);
        }
    }

    // ---- what the tests are told with

    private static void due(String call, long want, long got) {
        if (got != want) {
            wrong++;
            System.out.println(call + " answered " + got + ", due is " + want);
        }
    }

    private static HeapGames typed(HeapGames game, String text) {
        for (int i = 0; i < text.length(); i++) {
            due("type " + text.charAt(i) + " of " + text, i + 1, game.type(text.charAt(i)));
        }
        return game;
    }

    private static HeapGames game(String rules, String position) {
        HeapGames game = typed(new HeapGames(), rules);
        if (game.readRules() < 0) {
            due("rules " + rules, 0, BAD);
        }
        if (typed(game, position).readPosition() < 0) {
            due("position " + position, 0, BAD);
        }
        return game;
    }

    private static void dueHeaps(String when, HeapGames game, int... sizesAndBounds) {
        due(when + ": heaps", sizesAndBounds.length / 2, game.count(0));
        for (int i = 0; i < sizesAndBounds.length / 2; i++) {
            due(when + ": size of heap " + i, sizesAndBounds[2 * i], game.heap(i, 0));
            due(when + ": bound of heap " + i, sizesAndBounds[2 * i + 1], game.heap(i, 1));
        }
    }

    private static void dueMove(HeapGames game, int move, int... properties) {
        for (int what = 0; what < properties.length; what++) {
            due("move(" + move + ", " + what + ")", properties[what], game.move(move, what));
        }
    }

    private static void dueSolution(HeapGames game, int outcome, int distance, int best, int good) {
        due("outcome", outcome, game.outcome());
        due("distance", distance, game.distance());
        due("best", best, game.best());
        due("good", good, game.good());
    }

    private static long digestByHand(HeapGames game, String text) {
        long hash = 475;
        for (int what = 1; what <= 13; what++) {
            hash = 31 * hash + game.rule(what);
        }
        for (int what = 0; what <= 7; what++) {
            hash = 31 * hash + game.count(what);
        }
        for (int i = 0; i < game.count(0); i++) {
            for (int what = 0; what <= 2; what++) {
                hash = 31 * hash + game.heap(i, what);
            }
        }
        for (int i = 0; i < game.count(4); i++) {
            for (int what = 0; what <= 6; what++) {
                hash = 31 * hash + game.move(i, what);
            }
        }
        int[] solution = {game.outcome(), game.distance(), game.best(), game.good(), game.period(0), game.period(1)};
        for (int number : solution) {
            hash = 31 * hash + number;
        }
        for (int size = 0; size <= 60; size++) {
            hash = 31 * hash + game.grundy(size);
        }
        for (int i = 0; i < text.length(); i++) {
            hash = 31 * hash + text.charAt(i);
        }
        return hash;
    }

    // ---- the constants and promise 1

    private static void constants() {
        due("NONE", NONE, HeapGames.NONE);
        due("BAD", BAD, HeapGames.BAD);
        due("STATE", STATE, HeapGames.STATE);
        due("FULL", FULL, HeapGames.FULL);
    }

    private static void newObject() {
        HeapGames game = new HeapGames();
        for (int what = 1; what <= 13; what++) {
            due("new: rule " + what, 0, game.rule(what));
        }
        for (int what = 0; what <= 6; what++) {
            due("new: count " + what, 0, game.count(what));
        }
        due("new: count 7", 1, game.count(7));
        dueSolution(game, 0, 0, NONE, 0);
        due("new: undo", STATE, game.undo());
    }

    // ---- promises 2 to 5

    private static void digits() {
        HeapGames game = new HeapGames();
        due("setDigit", 0, game.setDigit(1, 3));
        due("setDigit again", 3, game.setDigit(1, 7));
        due("setDigit 10", 0, game.setDigit(10, 1));
        long before = game.digest();
        int[][] bad = {{0, 1}, {11, 1}, {-1, 1}, {1, -1}, {1, 8}, {Integer.MIN_VALUE, 1}, {1, Integer.MAX_VALUE}};
        for (int[] arguments : bad) {
            due("setDigit of bad", BAD, game.setDigit(arguments[0], arguments[1]));
        }
        due("digest after bad ones", before, game.digest());
        due("setDigit to 0", 7, game.setDigit(1, 0));

        int[][] movesBySize = {{0, 0, 0, 0, 0}, {0, 1, 0, 0, 0}, {0, 0, 1, 1, 1}, {0, 1, 1, 1, 1},
            {0, 0, 0, 1, 1}, {0, 1, 0, 1, 1}, {0, 0, 1, 2, 2}, {0, 1, 1, 2, 2}};
        for (int digit = 0; digit <= 7; digit++) {
            for (int size = 1; size <= 4; size++) {
                HeapGames single = new HeapGames();
                single.setDigit(1, digit);
                single.place(size);
                due("moves of " + size + " by digit " + digit, movesBySize[digit][size], single.count(4));
            }
        }
    }

    private static void obliging() {
        HeapGames game = new HeapGames();
        due("setObliging", 0, game.setObliging(2));
        due("setObliging all", 2, game.setObliging(2046));
        int[] bad = {1, 3, 2047, 2048, -1, -2, Integer.MIN_VALUE};
        for (int numbers : bad) {
            due("setObliging " + numbers, BAD, game.setObliging(numbers));
        }
        due("setObliging none", 2046, game.setObliging(0));
        due("rule 11", 0, game.rule(11));

        HeapGames split = game(".73", "5+2");
        split.setObliging(2);
        split.play(3);
        dueHeaps("a split that obliges", split, 1, 1, 2, 0, 3, 1);
        split.undo();
        split.play(5);
        dueHeaps("a taking of two that does not", split, 2, 0, 3, 0);
        HeapGames gone = game(".7", "1+3");
        gone.setObliging(2);
        gone.play(0);
        dueHeaps("a heap that is gone", gone, 3, 0);
    }

    private static void growing() {
        HeapGames game = new HeapGames();
        due("setGrowing", 0, game.setGrowing(512));
        due("setGrowing all", 512, game.setGrowing(1022));
        int[] bad = {1, 1023, 1024, -1, -1024, Integer.MIN_VALUE};
        for (int sizes : bad) {
            due("setGrowing " + sizes, BAD, game.setGrowing(sizes));
        }
        game.place(9);
        dueMove(game, 0, 1, 9, 0, 0, 10, 0, 0);
        due("count 4 with nine counters", 1, game.count(4));
        game.place(1);
        due("count 4 with ten counters", 0, game.count(4));
        game.lift(1);
        due("growth of one", 2, game.play(0));
        dueHeaps("a grown heap", game, 2, 0);
        due("setGrowing none", 1022, game.setGrowing(0));
        due("count 4 without growing", 0, game.count(4));
    }

    private static void misere() {
        HeapGames game = game("nim", "1");
        due("usual outcome", 1, game.outcome());
        due("setMisere", 0, game.setMisere(true));
        due("misere outcome", 0, game.outcome());
        due("misere distance", 1, game.distance());
        due("setMisere again", 1, game.setMisere(true));
        due("setMisere back", 1, game.setMisere(false));
        due("usual again", 0, game.setMisere(false));
        due("usual outcome again", 1, game.outcome());
        due("count 5 without changes of rules", 1, game.count(5));
    }

    // ---- promises 6 to 9

    private static void typing() {
        HeapGames game = new HeapGames();
        due("type -1", BAD, game.type(-1));
        due("type 128", BAD, game.type(128));
        for (int i = 1; i <= 40; i++) {
            due("type " + i, i, game.type(i % 2 == 0 ? 0 : 127));
        }
        due("type 41", FULL, game.type(65));
        due("type of bad when full", BAD, game.type(128));
        due("count 6", 40, game.count(6));
    }

    private static void erasing() {
        HeapGames game = new HeapGames();
        due("erase of nothing", 0, game.erase());
        typed(game, "abc");
        due("erase", 3, game.erase());
        due("erase again", 0, game.erase());
        due("count 6", 0, game.count(6));
    }

    private static void dueRules(String text, int answer, int... digits) {
        HeapGames game = new HeapGames();
        for (int k = 1; k <= 10; k++) {
            game.setDigit(k, 6);
        }
        game.setObliging(4);
        game.setGrowing(8);
        game.setMisere(true);
        due("readRules " + text, answer, typed(game, text).readRules());
        for (int k = 1; k <= 10; k++) {
            int digit = answer < 0 ? 6 : k <= digits.length ? digits[k - 1] : 0;
            due("digit " + k + " of " + text, digit, game.rule(k));
        }
        due("length after " + text, answer < 0 ? text.length() : 0, game.count(6));
        due("obliging after " + text, 4, game.rule(11));
        due("growing after " + text, 8, game.rule(12));
        due("misere after " + text, 1, game.rule(13));
        due("history after " + text, 0, game.count(5));
    }

    private static void rulesTexts() {
        dueRules("nim", 10, 3, 3, 3, 3, 3, 3, 3, 3, 3, 3);
        dueRules("kayles", 2, 7, 7);
        dueRules("dawson", 3, 1, 3, 7);
        dueRules("guiles", 2, 1, 5);
        dueRules("  nim ", 10, 3, 3, 3, 3, 3, 3, 3, 3, 3, 3);
        dueRules(".0", 0);
        dueRules(".07", 1, 0, 7);
        dueRules("  .1234567012  ", 9, 1, 2, 3, 4, 5, 6, 7, 0, 1, 2);
        dueRules("", -2000);
        dueRules("   ", -2003);
        dueRules(".", -2001);
        dueRules(" .", -2002);
        dueRules(". 1", -2001);
        dueRules(".1 2", -2003);
        dueRules(".18", -2002);
        dueRules(".9", -2001);
        dueRules(".12345670123", -2011);
        dueRules(".1234567012 3", -2012);
        dueRules("ni", -2000);
        dueRules("  ni", -2002);
        dueRules("nimm", -2000);
        dueRules(" nim nim", -2005);
        dueRules("nim.3", -2003);
        dueRules("nim3", -2003);
        dueRules("niM", -2000);
        dueRules("Nim", -2000);
        dueRules("kaylesdawson", -2000);
        dueRules("n im", -2000);
        dueRules("3", -2000);
        dueRules("\tnim", -2000);
        dueRules("nim\t", -2003);
        dueRules(".3nim", -2002);
        dueRules("..3", -2001);
    }

    private static void ruleOf() {
        HeapGames game = typed(new HeapGames(), ".1234567123");
        game.readRules();
        game.setObliging(20);
        game.setGrowing(6);
        game.setMisere(true);
        int[] rules = {1, 2, 3, 4, 5, 6, 7, 1, 2, 3, 20, 6, 1};
        for (int what = 1; what <= 13; what++) {
            due("rule " + what, rules[what - 1], game.rule(what));
        }
        int[] bad = {0, 14, -1, Integer.MIN_VALUE, Integer.MAX_VALUE};
        for (int what : bad) {
            due("rule " + what, BAD, game.rule(what));
        }
    }

    // ---- promises 10 to 15

    private static void placing() {
        HeapGames game = new HeapGames();
        due("place 0", BAD, game.place(0));
        due("place of the least", BAD, game.place(Integer.MIN_VALUE));
        due("place 11", FULL, game.place(11));
        due("place of the greatest", FULL, game.place(Integer.MAX_VALUE));
        due("place 4", 1, game.place(4));
        due("place 2", 2, game.place(2));
        due("place 4 again", 3, game.place(4));
        due("place 1 too many", FULL, game.place(1));
        due("place 0 when full", BAD, game.place(0));
        dueHeaps("placed", game, 2, 0, 4, 0, 4, 0);
        due("history", 3, game.count(5));

        HeapGames bound = game(".1", "3!+5!p");
        due("place beside bound heaps", 3, bound.place(1));
        due("place before its like", FULL, bound.place(3));
        dueHeaps("bound heaps stay", bound, 1, 0, 3, 1, 5, 1);
        due("the pass stays", 1, bound.count(2));
        HeapGames like = game(".1", "3!");
        like.place(3);
        dueHeaps("free ones first", like, 3, 0, 3, 1);
    }

    private static void lifting() {
        HeapGames game = game(".1", "1+2!+2+5");
        int[] bad = {-1, 4, Integer.MIN_VALUE, Integer.MAX_VALUE};
        for (int heap : bad) {
            due("lift " + heap, BAD, game.lift(heap));
        }
        due("history after bad ones", 1, game.count(5));
        due("lift 3", 5, game.lift(3));
        due("lift 1", 2, game.lift(1));
        dueHeaps("lifted", game, 1, 0, 2, 1);
        due("lift 0", 1, game.lift(0));
        due("lift the last", 2, game.lift(0));
        due("lift of none", BAD, game.lift(0));
        due("history", 5, game.count(5));
    }

    private static void passing() {
        HeapGames game = game("nim", "2!");
        due("setPass", 0, game.setPass(true));
        due("setPass again", 1, game.setPass(true));
        dueHeaps("with the pass", game, 2, 1);
        due("count 2", 1, game.count(2));
        due("history", 3, game.count(5));
        due("setPass off", 1, game.setPass(false));
        due("setPass off again", 0, game.setPass(false));
        due("undo", 4, game.undo());
        due("undo", 3, game.undo());
        due("count 2 after undo", 1, game.count(2));
    }

    private static void duePosition(String text, int answer, int pass, int... sizesAndBounds) {
        HeapGames game = game("nim", "3p");
        long before = game.digest();
        due("readPosition " + text, answer, typed(game, text).readPosition());
        due("length after " + text, answer < 0 ? text.length() : 0, game.count(6));
        due("history after " + text, answer < 0 ? 1 : 2, game.count(5));
        due("pass after " + text, pass, game.count(2));
        dueHeaps("after " + text, game, sizesAndBounds);
        if (answer < 0) {
            due("erase " + text, text.length(), game.erase());
        } else {
            due("undo " + text, 1, game.undo());
        }
        due("digest after " + text, before, game.digest());
    }

    private static void dueFault(String text, int fault) {
        duePosition(text, -2000 - fault, 1, 3, 0);
    }

    private static void positionTexts() {
        duePosition("", 0, 0);
        duePosition("   ", 0, 0);
        duePosition("p", 0, 1);
        duePosition(" p ", 0, 1);
        duePosition("10", 1, 0, 10, 0);
        duePosition("10!p", 1, 1, 10, 1);
        duePosition("05", 1, 0, 5, 0);
        duePosition("3+1!+03+1", 4, 0, 1, 0, 1, 1, 3, 0, 3, 0);
        duePosition("  2 ! + 3 ! p ", 2, 1, 2, 1, 3, 1);
        duePosition("1+1+1+1+1+1+1+1+1+1", 10, 0, 1, 0, 1, 0, 1, 0, 1, 0, 1, 0, 1, 0, 1, 0, 1, 0, 1, 0, 1, 0);
        duePosition("1!+1!+1!+1!+1!+1!+1!+1!+1!+1!p", 10, 1, 1, 1, 1, 1, 1, 1, 1, 1, 1, 1, 1, 1, 1, 1, 1, 1, 1, 1, 1, 1);
        dueFault("0", 0);
        dueFault("00", 0);
        dueFault("000", 0);
        dueFault("11", 0);
        dueFault("110", 0);
        dueFault("100", 2);
        dueFault("055", 2);
        dueFault(" 4 + 7", 5);
        dueFault("4+0", 2);
        dueFault("10+1", 3);
        dueFault("10+", 3);
        dueFault("4+", 2);
        dueFault("4+  ", 4);
        dueFault("4++4", 2);
        dueFault("4+p", 2);
        dueFault("+4", 0);
        dueFault("!", 0);
        dueFault("4!!", 2);
        dueFault("4 5", 2);
        dueFault("1 0", 2);
        dueFault("4!5", 2);
        dueFault("p4", 1);
        dueFault("pp", 1);
        dueFault("4pp", 2);
        dueFault("4p!", 2);
        dueFault("p+4", 1);
        dueFault("4P", 1);
        dueFault("x", 0);
        dueFault("  x", 2);
        dueFault("-1", 0);
        dueFault("4\t", 1);
        dueFault("4+7x", 2);
        dueFault("9+1 1", 4);
    }

    private static void heapProperties() {
        HeapGames game = game("kayles", "4+2!+4!");
        dueHeaps("heaps", game, 2, 1, 4, 0, 4, 1);
        due("heap 0's value", 2, game.heap(0, 2));
        due("heap 1's value", 1, game.heap(1, 2));
        due("heap 2's value", 1, game.heap(2, 2));
        int[][] bad = {{-1, 0}, {3, 0}, {0, -1}, {0, 3}, {Integer.MAX_VALUE, 0}, {0, Integer.MIN_VALUE}};
        for (int[] arguments : bad) {
            due("heap of bad", BAD, game.heap(arguments[0], arguments[1]));
        }
        due("heap of none", BAD, new HeapGames().heap(0, 0));
    }

    private static void undoing() {
        HeapGames game = new HeapGames();
        due("undo of nothing", STATE, game.undo());
        game.setDigit(1, 3);
        game.place(3);
        game.setPass(true);
        game.play(0);
        typed(game, "1!+2!").readPosition();
        game.lift(0);
        due("history", 5, game.count(5));
        due("undo lift", 4, game.undo());
        dueHeaps("before lift", game, 1, 1, 2, 1);
        due("undo readPosition", 3, game.undo());
        dueHeaps("before readPosition", game, 2, 0);
        due("pass before readPosition", 1, game.count(2));
        due("undo play", 2, game.undo());
        dueHeaps("before play", game, 3, 0);
        due("undo setPass", 1, game.undo());
        due("pass before setPass", 0, game.count(2));
        due("undo place", 0, game.undo());
        due("heaps before place", 0, game.count(0));
        due("undo at the end", STATE, game.undo());
        due("rules are no part of it", 3, game.rule(1));
    }

    private static void historyLimit() {
        HeapGames game = new HeapGames();
        game.place(7);
        for (int i = 0; i < 29; i++) {
            game.setPass(i % 2 == 0);
        }
        due("history of 30", 30, game.count(5));
        game.place(1);
        due("history stays at 30", 30, game.count(5));
        game.place(1);
        due("history stays at 30", 30, game.count(5));
        for (int left = 29; left >= 0; left--) {
            due("undo to " + left, left, game.undo());
        }
        due("the oldest two are dropped", STATE, game.undo());
        dueHeaps("the oldest one that is kept", game, 7, 0);
        due("pass of the oldest one", 1, game.count(2));
        due("place after all", 2, game.place(3));
        due("history after all", 1, game.count(5));
    }

    // ---- promises 16 and 17

    private static void moveProperties() {
        HeapGames game = game("kayles", "5");
        due("count 4", 5, game.count(4));
        dueMove(game, 0, 0, 5, 1, 0, 4, 1, 3);
        dueMove(game, 1, 0, 5, 1, 1, 3, 1, 3);
        dueMove(game, 2, 0, 5, 1, 2, 2, 0, 4);
        dueMove(game, 3, 0, 5, 2, 0, 3, 1, 3);
        dueMove(game, 4, 0, 5, 2, 1, 2, 1, 3);
        int[][] bad = {{-1, 0}, {5, 0}, {0, -1}, {0, 7}, {Integer.MAX_VALUE, 0}, {0, Integer.MIN_VALUE}};
        for (int[] arguments : bad) {
            due("move of bad", BAD, game.move(arguments[0], arguments[1]));
        }
        HeapGames draw = game(".3", "2");
        draw.setGrowing(4);
        dueMove(draw, 0, 0, 2, 1, 0, 1, 1, 1);
        dueMove(draw, 1, 1, 2, 0, 0, 3, 2, NONE);
    }

    private static void moveOrder() {
        HeapGames game = game(".77", "3+2+3p");
        game.setGrowing(12);
        due("count 4", 8, game.count(4));
        dueMove(game, 0, 0, 2, 1, 0, 1);
        dueMove(game, 1, 0, 2, 2, 0, 0);
        dueMove(game, 2, 0, 3, 1, 0, 2);
        dueMove(game, 3, 0, 3, 1, 1, 1);
        dueMove(game, 4, 0, 3, 2, 0, 1);
        dueMove(game, 5, 1, 2, 0, 0, 3);
        dueMove(game, 6, 1, 3, 0, 0, 4);
        dueMove(game, 7, 2, 0, 0, 0, 0);

        HeapGames most = game(".7777777777", "10p");
        due("the most moves", 31, most.count(4));
        dueMove(most, 5, 0, 10, 2, 0, 8);
        dueMove(most, 29, 0, 10, 10, 0, 0);
        dueMove(most, 30, 2, 0, 0, 0, 0);
    }

    private static void boundHeaps() {
        HeapGames game = game(".3", "1+2!+2+3!p");
        game.setGrowing(2 + 4);
        due("moves in bound heaps alone, and no pass", 3, game.count(4));
        dueMove(game, 0, 0, 2, 1, 0, 1);
        dueMove(game, 1, 0, 3, 1, 0, 2);
        dueMove(game, 2, 1, 2, 0, 0, 3);
        game.play(1);
        dueHeaps("all are free after it", game, 1, 0, 2, 0, 2, 0, 2, 0);
        game.undo();
        game.setObliging(2);
        game.play(0);
        dueHeaps("only what is left is bound", game, 1, 0, 1, 1, 2, 0, 3, 0);
        game.undo();
        game.play(2);
        dueHeaps("a grown heap is free", game, 1, 0, 2, 0, 3, 0, 3, 0);

        HeapGames stuck = game(".01", "1!+2p");
        dueSolution(stuck, 0, 0, NONE, 0);
        due("a bound heap without moves ends the game", 0, stuck.count(4));
    }

    private static void playing() {
        HeapGames game = game("nim", "2+3p");
        int[] bad = {-1, 6, Integer.MIN_VALUE, Integer.MAX_VALUE};
        for (int move : bad) {
            due("play " + move, BAD, game.play(move));
        }
        due("history after bad ones", 1, game.count(5));
        due("play the pass", 5, game.play(5));
        due("the pass is gone", 0, game.count(2));
        dueHeaps("after the pass", game, 2, 0, 3, 0);
        due("the pass is no move", 5, game.count(4));
        due("play 4", 2, game.play(4));
        due("play 1", 0, game.play(1));
        due("history", 4, game.count(5));
        due("play at the end", BAD, game.play(0));
        due("no pass without heaps", 0, game("nim", "p").count(4));
    }

    // ---- promises 18 to 24

    private static void outcomes() {
        due("nim 1+1", 0, game("nim", "1+1").outcome());
        due("nim 1+2", 1, game("nim", "1+2").outcome());
        due("nim 1+2+3", 0, game("nim", "1+2+3").outcome());
        due("kayles 4+1", 0, game("kayles", "4+1").outcome());
        due("without moves", 0, game(".0", "4+1").outcome());
        HeapGames misere = game("nim", "1+1");
        misere.setMisere(true);
        dueSolution(misere, 1, 2, 0, 1);
        misere.lift(0);
        dueSolution(misere, 0, 1, 0, 1);
        misere.lift(0);
        dueSolution(misere, 1, 0, NONE, 0);
        HeapGames draw = game(".3", "2");
        draw.setGrowing(4);
        dueSolution(draw, 2, NONE, 1, 1);
        draw.play(1);
        dueSolution(draw, 2, NONE, 0, 1);
    }

    private static void distances() {
        due("nim 3", 1, game("nim", "3").distance());
        due("nim 2+2", 4, game("nim", "2+2").distance());
        due("nim 2+3", 5, game("nim", "2+3").distance());
        due("nim 1+2+3", 6, game("nim", "1+2+3").distance());
        due(".3 with ten", 10, game(".3", "10").distance());
        HeapGames grown = game(".1", "9");
        grown.setGrowing(512);
        due("one growth", 1, grown.distance());
    }

    private static void bestMoves() {
        // 2 -> 1 wins in six moves more, 3 -> 0 in four.
        dueSolution(game("nim", "2+2+3"), 1, 5, 4, 2);
        // 2 -> 1 loses in three moves more, 2 -> 0 at once.
        dueSolution(game("nim", "2+2"), 0, 4, 0, 2);
        // Both 1 -> 0 and 3 -> 2 lose in five moves more.
        dueSolution(game("nim", "1+2+3"), 0, 6, 0, 6);
        // In misere play a heap of two without moves has won, and 1+1 wins only after two moves.
        HeapGames later = game(".106", "5");
        later.setMisere(true);
        dueSolution(later, 0, 3, 1, 2);
        // Of several draws the first one: the moves 0 and 3 lose, 1 and 2 draw.
        HeapGames draws = game(".13", "1+3");
        draws.setGrowing(14);
        dueSolution(draws, 2, NONE, 1, 2);
        dueMove(draws, 0, 0, 1, 1, 0, 0, 1, 3);
        dueMove(draws, 1, 0, 3, 2, 0, 1, 2, NONE);
        dueMove(draws, 2, 1, 1, 0, 0, 2, 2, NONE);
        dueMove(draws, 3, 1, 3, 0, 0, 4, 1, 3);
    }

    private static void goodMoves() {
        HeapGames game = game("nim", "1+2");
        dueSolution(game, 1, 3, 1, 1);
        due("move(1, 5)", 0, game.move(1, 5));
        due("moves that all lose", 10, game("nim", "1+4+5").count(4));
        due("all moves are good then", 10, game("nim", "1+4+5").good());
        due("no moves", 0, game("nim", "").good());
    }

    /** Each of the setters has to be felt by what was solved before it. */
    private static void changedRules() {
        HeapGames game = game(".3", "2+2");
        dueSolution(game, 0, 4, 0, 1);
        game.setDigit(2, 1);
        dueSolution(game, 0, 4, 0, 2);
        game.setObliging(2);
        dueSolution(game, 1, 3, 0, 1);
        game.setGrowing(4);
        due("moves after setGrowing", 3, game.count(4));
        due("reachable after setGrowing", 12, game.count(7));
        game.setGrowing(0);
        game.setMisere(true);
        due("misere outcome", 1, game.outcome());
        typed(game, ".01").readRules();
        dueSolution(game, 1, 2, 0, 1);
        due("reachable after readRules", 3, game.count(7));
    }

    private static void playingOut() {
        HeapGames game = game("nim", "2+2+3");
        int[] bad = {0, 41, -1, Integer.MIN_VALUE, Integer.MAX_VALUE};
        for (int most : bad) {
            due("playOut " + most, BAD, game.playOut(most));
        }
        due("history after bad ones", 1, game.count(5));
        due("playOut 2", 2, game.playOut(2));
        dueHeaps("after two", game, 1, 0, 2, 0);
        due("playOut of the rest", 3, game.playOut(40));
        due("history", 6, game.count(5));
        due("playOut at the end", 0, game.playOut(1));
        due("undo", 5, game.undo());
        dueHeaps("before the last", game, 1, 0);

        HeapGames endless = game(".3", "2");
        endless.setGrowing(4);
        due("playOut of a draw", 40, endless.playOut(40));
        due("history of it", 30, endless.count(5));
        dueHeaps("after an even number", endless, 2, 0);
        due("playOut of one", 1, endless.playOut(1));
        dueHeaps("after an odd number", endless, 3, 0);
    }

    private static void outcomesWith() {
        HeapGames game = game("nim", "1+1p");
        dueSolution(game, 1, 3, 1, 1);
        due("with the pass", 1, game.outcomeWith(true));
        due("without it", 0, game.outcomeWith(false));
        due("nothing changes", 1, game.count(2));
        due("history", 1, game.count(5));
        game.setPass(false);
        due("with the pass", 1, game.outcomeWith(true));
        due("without it", 0, game.outcomeWith(false));
        due("a bound heap without moves", 0, game(".0", "1!").outcomeWith(true));
        due("a free heap without moves", 1, game(".0", "1").outcomeWith(true));
    }

    private static void censuses() {
        HeapGames game = game("nim", "5!+1");
        due("of 0", 1, game.census(0, false, 0));
        due("of 0 with the pass", 1, game.census(0, true, 0));
        due("of 4, lost", 2, game.census(4, false, 0));
        due("of 4, won", 3, game.census(4, false, 1));
        due("of 4, drawn", 0, game.census(4, false, 2));
        int[] partitions = {1, 1, 2, 3, 5, 7, 11, 15, 22, 30, 42};
        for (int counters = 0; counters <= 10; counters++) {
            int all = 0;
            for (int outcome = 0; outcome <= 2; outcome++) {
                all += game.census(counters, counters % 2 == 0, outcome);
            }
            due("partitions of " + counters, partitions[counters], all);
        }
        int[][] bad = {{-1, 0}, {11, 0}, {0, -1}, {0, 3}, {Integer.MIN_VALUE, 0}, {0, Integer.MAX_VALUE}};
        for (int[] arguments : bad) {
            due("census of bad", BAD, game.census(arguments[0], true, arguments[1]));
        }
        game.setMisere(true);
        due("of 0 in misere play", 1, game.census(0, false, 1));
        HeapGames growing = game(".3", "");
        growing.setGrowing(4);
        due("2 is drawn, 1+1 is not", 1, growing.census(2, false, 2));
        due("1+1 is lost", 1, growing.census(2, false, 0));
    }

    // ---- promises 25 to 27

    private static void dueValues(String rules, int... values) {
        HeapGames game = game(rules, "");
        for (int size = 0; size < values.length; size++) {
            due("value of " + size + " by " + rules, values[size], game.grundy(size));
        }
    }

    private static void grundyValues() {
        dueValues("nim", 0, 1, 2, 3, 4, 5, 6, 7, 8, 9, 10, 0, 1, 2);
        dueValues("kayles", 0, 1, 2, 3, 1, 4, 3, 2, 1, 4, 2, 6, 4, 1, 2, 7, 1, 4, 3, 2, 1, 4, 6, 7);
        dueValues("dawson", 0, 1, 1, 2, 0, 3, 1, 1, 0, 3, 3, 2, 2, 4, 0, 5, 2, 2, 3, 3, 0, 1, 1, 3, 0, 2, 1, 1);
        dueValues("guiles", 0, 1, 1, 0, 1, 1, 2, 2, 1, 2, 2, 1, 1, 0);
        dueValues(".6", 0, 0, 1, 2, 0, 1, 2, 3, 1, 2, 3, 4, 0, 3, 4, 2, 1, 3, 2, 1, 0, 2, 1, 4, 5);
        dueValues(".2", 0, 0, 1, 0, 1, 0);
        dueValues(".1", 0, 1, 0, 0, 0);
        HeapGames game = game("nim", "");
        due("grundy 60", 5, game.grundy(60));
        int[] bad = {-1, 61, Integer.MIN_VALUE, Integer.MAX_VALUE};
        for (int size : bad) {
            due("grundy " + size, BAD, game.grundy(size));
        }
        game.setObliging(2);
        game.setGrowing(2);
        game.setMisere(true);
        game.setPass(true);
        due("by the digits alone", 7, game.grundy(7));
        game.setDigit(7, 0);
        due("by the digits at present", 0, game.grundy(7));
    }

    private static void nimSums() {
        due("nim 1+4+3", 6, game("nim", "1+4+3").nimSum());
        due("bound heaps count", 7, game("nim", "1!+4+2!p").nimSum());
        due("kayles 4+5", 5, game("kayles", "4+5").nimSum());
        due("no heaps", 0, game("nim", "").nimSum());
    }

    private static void duePeriod(String rules, int length, int start) {
        HeapGames game = game(rules, "");
        due("period of " + rules, length, game.period(0));
        due("its start", start, game.period(1));
    }

    private static void periods() {
        duePeriod(".0", 1, 0);
        duePeriod(".1", 1, 2);
        duePeriod(".0000000001", 1, 11);
        duePeriod(".2", 2, 1);
        duePeriod(".3", 2, 0);
        duePeriod(".33", 3, 0);
        duePeriod("nim", 11, 0);
        duePeriod("guiles", 10, 1);
        duePeriod("kayles", NONE, NONE);
        duePeriod("dawson", NONE, NONE);
        duePeriod(".3040701053", 20, 0);
        duePeriod(".0322711", 8, 20);
        // A period of 21, one of 8 that would start at 21, and one of 18 that only the value of 60 breaks.
        duePeriod(".1000145002", NONE, NONE);
        duePeriod(".023701", NONE, NONE);
        duePeriod(".1000232620", NONE, NONE);
        HeapGames game = game("kayles", "");
        int[] bad = {-1, 2, Integer.MIN_VALUE, Integer.MAX_VALUE};
        for (int what : bad) {
            due("period(" + what + ")", BAD, game.period(what));
        }
    }

    // ---- promises 28 and 29

    private static void counts() {
        HeapGames game = typed(game("nim", "1!+2!+3p"), "ab");
        int[] numbers = {3, 6, 1, 2, 3, 1, 2};
        for (int what = 0; what <= 6; what++) {
            due("count " + what, numbers[what], game.count(what));
        }
        int[] bad = {-1, 8, Integer.MIN_VALUE, Integer.MAX_VALUE};
        for (int what : bad) {
            due("count " + what, BAD, game.count(what));
        }
        due("nim 1+2 reaches", 5, game("nim", "1+2").count(7));
        due("with the pass", 10, game("nim", "1+2p").count(7));
        due("a bound one reaches", 4, game("nim", "1+2!").count(7));
        due("without moves", 1, game(".0", "1+2").count(7));
        HeapGames cycle = game(".3", "2");
        cycle.setGrowing(4);
        due("a cycle reaches", 4, cycle.count(7));
        due("outcome before", 2, cycle.outcome());
        cycle.play(0);
        due("a part of what is solved", 2, cycle.count(7));
        HeapGames obliged = game(".3", "3");
        obliged.setObliging(2);
        due("bound heaps are others", 4, obliged.count(7));
    }

    private static void digests() {
        String[] rules = {"nim", "kayles", ".0", ".25", ".7777777777"};
        String[] positions = {"", "p", "1+4+3", "5!+2p", "10p", "1+2!+2+2!p"};
        for (String digits : rules) {
            for (String position : positions) {
                HeapGames game = game(digits, position);
                due("digest", digestByHand(game, ""), game.digest());
                game.setObliging(6);
                game.setGrowing(20);
                game.setMisere(position.length() > 3);
                typed(game, "p \u007f").type(0);
                due("digest", digestByHand(game, "p \u007f\0"), game.digest());
                due("digest is the same", game.digest(), game.digest());
            }
        }
    }
}
