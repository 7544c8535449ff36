import java.lang.annotation.ElementType;
import java.lang.annotation.Retention;
import java.lang.annotation.RetentionPolicy;
import java.lang.annotation.Target;
import java.lang.reflect.InvocationTargetException;
import java.lang.reflect.Method;
import java.util.ArrayList;
import java.util.Arrays;
import java.util.Comparator;
import java.util.List;
import java.util.function.Supplier;
import java.util.function.ToLongFunction;

/** What the boundary tests are told with. Each of their tests holds to one sentence of ../shared/DOC.md. */
class Boundaries {
    static final int NONE = -1, BAD = -2, STATE = -3, FULL = -4;
    static final int LEAST = Integer.MIN_VALUE, GREATEST = Integer.MAX_VALUE;

    /** Where the sentence stands in the document, and its words; BoundaryIndexTest looks them up there. */
    @Retention(RetentionPolicy.RUNTIME)
    @Target(ElementType.METHOD)
    @interface Sentence {
        String at();

        String says();
    }

    private static String test = "";
    private static int wrong = 0;

    /** Runs each test of a class, and ends with the exit code 1 if one of them failed. */
    static void runAll(Class<?> tests) {
        Method[] methods = tests.getDeclaredMethods();
        Arrays.sort(methods, Comparator.comparing(Method::getName));
        int run = 0;
        for (Method method : methods) {
            Sentence sentence = method.getAnnotation(Sentence.class);
            if (sentence != null) {
                test = sentence.at() + ", \"" + sentence.says() + "\" (" + method.getName() + ")";
                runOne(method);
                run++;
            }
        }
        System.out.println(wrong == 0 && run > 0 ? run + " sentences hold" : wrong + " answers are not as due");
        if (wrong != 0 || run == 0) {
            System.exit(1);
        }
    }

    private static void runOne(Method method) {
        try {
            method.invoke(null);
        } catch (InvocationTargetException thrown) {
            fail("threw " + thrown.getCause());
        } catch (IllegalAccessException hidden) {
            fail("is hidden");
        }
    }

    static void fail(String what) {
        wrong++;
        System.out.println(test + ": " + what);
    }

    static void due(String call, long want, long got) {
        if (got != want) {
            fail(call + " answered " + got + ", due is " + want);
        }
    }

    static HeapGames typed(HeapGames game, String text) {
        for (int i = 0; i < text.length(); i++) {
            due("type of byte " + i + " of '" + text + "'", i + 1, game.type(text.charAt(i)));
        }
        return game;
    }

    /** A new object with rules and a position that were read from texts; its history has one position. */
    static HeapGames game(String rules, String position) {
        HeapGames game = typed(new HeapGames(), rules);
        if (game.readRules() < 0) {
            fail("the rules '" + rules + "' cannot be read");
        }
        if (typed(game, position).readPosition() < 0) {
            fail("the position '" + position + "' cannot be read");
        }
        return game;
    }

    static HeapGames growing(HeapGames game, int sizes) {
        game.setGrowing(sizes);
        return game;
    }

    static HeapGames obliging(HeapGames game, int numbers) {
        game.setObliging(numbers);
        return game;
    }

    static HeapGames misere(HeapGames game) {
        game.setMisere(true);
        return game;
    }

    /** The heaps as a text of the document's form, with the pass. */
    static String positionOf(HeapGames game) {
        List<String> heaps = new ArrayList<>();
        for (int i = 0; i < game.count(0); i++) {
            heaps.add(game.heap(i, 0) + (game.heap(i, 1) == 1 ? "!" : ""));
        }
        return String.join("+", heaps) + (game.count(2) == 1 ? "p" : "");
    }

    static void duePosition(String when, String want, HeapGames game) {
        String got = positionOf(game);
        if (!got.equals(want)) {
            fail(when + ": the position is '" + got + "', due is '" + want + "'");
        }
    }

    static void dueSolution(String when, HeapGames game, int outcome, int distance, int best, int good) {
        due(when + ": outcome", outcome, game.outcome());
        due(when + ": distance", distance, game.distance());
        due(when + ": best", best, game.best());
        due(when + ": good", good, game.good());
    }

    /** Each move is told by its first properties; there are as many moves as are told, and no more. */
    static void dueMoves(String when, HeapGames game, int[]... moves) {
        due(when + ": moves", moves.length, game.count(4));
        for (int i = 0; i < moves.length; i++) {
            for (int what = 0; what < moves[i].length; what++) {
                due(when + ": move(" + i + ", " + what + ")", moves[i][what], game.move(i, what));
            }
        }
        due(when + ": a move more", BAD, game.move(moves.length, 0));
    }

    /** All that can be seen of an object; it is used up by it, as its history is undone. */
    static List<Long> wholeOf(HeapGames game) {
        List<Long> whole = new ArrayList<>(List.of(game.digest()));
        for (int i = 0; i < 40 && game.undo() != STATE; i++) {
            whole.add(game.digest());
        }
        return whole;
    }

    /** The call answers what is due, and changes nothing of an object that is made in this way. */
    static void dueWithoutChange(String call, long want, Supplier<HeapGames> make, ToLongFunction<HeapGames> asked) {
        HeapGames game = make.get();
        due(call, want, asked.applyAsLong(game));
        if (!wholeOf(game).equals(wholeOf(make.get()))) {
            fail(call + " changed something");
        }
    }
}
