import java.io.IOException;
import java.lang.management.ManagementFactory;
import java.lang.reflect.Array;
import java.lang.reflect.Constructor;
import java.lang.reflect.Field;
import java.lang.reflect.Method;
import java.lang.reflect.Modifier;
import java.nio.file.Files;
import java.nio.file.Path;
import java.util.ArrayDeque;
import java.util.ArrayList;
import java.util.Collections;
import java.util.IdentityHashMap;
import java.util.List;
import java.util.Set;
import java.util.TreeSet;
import java.util.regex.Matcher;
import java.util.regex.Pattern;

/** What LANGUAGE.md asks of the program, as far as it can be seen from its classes, its text and its room. */
public final class LanguageTest {
    private static final Path PROGRAM = Path.of("src/main/java/HeapGames.java");
    private static final String[] FACE = {
        "int setDigit(int,int)", "int setObliging(int)", "int setGrowing(int)", "int setMisere(boolean)",
        "int type(int)", "int erase()", "int readRules()", "int rule(int)", "int place(int)", "int lift(int)",
        "int setPass(boolean)", "int readPosition()", "int heap(int,int)", "int undo()", "int move(int,int)",
        "int play(int)", "int outcome()", "int distance()", "int best()", "int good()", "int playOut(int)",
        "int outcomeWith(boolean)", "int census(int,boolean,int)", "int grundy(int)", "int nimSum()",
        "int period(int)", "int count(int)", "long digest()"};
    private static int wrong = 0;

    public static void main(String[] args) throws IOException, IllegalAccessException {
        face();
        innerClasses();
        words(Files.readString(PROGRAM));
        shortMethods(Files.readAllLines(PROGRAM));
        room();
        System.out.println(wrong == 0 ? "the program keeps to the language" : wrong + " rules are broken");
        if (wrong != 0) {
            System.exit(1);
        }
    }

    private static void hold(boolean holds, String rule) {
        if (!holds) {
            wrong++;
            System.out.println("broken: " + rule);
        }
    }

    private static String signature(Method method) {
        List<String> types = new ArrayList<>();
        for (Class<?> type : method.getParameterTypes()) {
            types.add(type.getSimpleName());
        }
        return method.getReturnType().getSimpleName() + " " + method.getName() + "(" + String.join(",", types) + ")";
    }

    private static void face() {
        Class<?> type = HeapGames.class;
        hold(Modifier.isPublic(type.getModifiers()) && Modifier.isFinal(type.getModifiers()), "public and final");
        Set<String> shown = new TreeSet<>();
        for (Method method : type.getDeclaredMethods()) {
            if (!Modifier.isPrivate(method.getModifiers())) {
                shown.add(signature(method));
                hold(Modifier.isPublic(method.getModifiers()) && !Modifier.isStatic(method.getModifiers()),
                        method + " is an ordinary public method");
            }
        }
        hold(shown.equals(new TreeSet<>(List.of(FACE))), "the methods of the face and no others: " + shown);
        Set<String> constants = new TreeSet<>();
        for (Field field : type.getDeclaredFields()) {
            if (!Modifier.isPrivate(field.getModifiers())) {
                constants.add(field.toString());
            }
        }
        hold(constants.size() == 4, "the constants of the face and no others: " + constants);
        Constructor<?>[] constructors = type.getDeclaredConstructors();
        hold(constructors.length == 1 && Modifier.isPublic(constructors[0].getModifiers())
                && constructors[0].getParameterCount() == 0, "one public constructor");
    }

    private static void innerClasses() {
        Set<String> names = new TreeSet<>();
        for (String signature : FACE) {
            names.add(signature.substring(signature.indexOf(' ') + 1, signature.indexOf('(')));
        }
        List<Class<?>> all = new ArrayList<>(List.of(HeapGames.class.getDeclaredClasses()));
        for (Class<?> type : all) {
            int modifiers = type.getModifiers();
            hold(Modifier.isStatic(modifiers) && !Modifier.isPublic(modifiers) && !Modifier.isProtected(modifiers),
                    type + " is static and not shown");
        }
        all.add(HeapGames.class);
        hold(all.size() <= 12, "at most twelve classes");
        for (Class<?> type : all) {
            int fields = 0;
            for (Field field : type.getDeclaredFields()) {
                boolean isStatic = Modifier.isStatic(field.getModifiers());
                hold(!isStatic || Modifier.isFinal(field.getModifiers()), field + " is final");
                fields += isStatic ? 0 : 1;
            }
            hold(fields <= 20, type + " has at most twenty fields");
            for (Method method : type.getDeclaredMethods()) {
                hold(method.getParameterCount() <= 7, method + " takes at most seven parameters");
                boolean shown = type == HeapGames.class && Modifier.isPublic(method.getModifiers());
                hold(shown || !names.contains(method.getName()), method + " has a name of its own");
            }
        }
    }

    private static void words(String source) {
        String bare = source.replaceAll("(?s)/\\*.*?\\*/", " ").replaceAll("//[^\n]*", " ")
                .replaceAll("\"[^\"\n]*\"", "\"\"").replaceAll("'[^'\n]+'", "' '");
        String[] forbidden = {"throw", "throws", "try", "catch", "finally", "synchronized", "assert", "package",
            "volatile", "transient", "native", "var", "System", "Thread", "Object", "Random"};
        for (String word : forbidden) {
            hold(!Pattern.compile("\\b" + word + "\\b").matcher(bare).find(), "no " + word);
        }
        hold(!bare.contains("->") && !bare.contains("::"), "no lambda and no method reference");
        hold(!bare.contains("Exact"), "no function whose name ends in Exact");
        hold(!Pattern.compile("static\\s*\\{").matcher(bare).find(), "no static initialiser");
        Matcher imports = Pattern.compile("import ([^;]*);").matcher(bare);
        while (imports.find()) {
            hold(imports.group(1).equals("java.util.Arrays"), "no import of " + imports.group(1));
        }
        Matcher brackets = Pattern.compile("\\w\\s*\\[[^\\]]").matcher(bare.replaceAll("new \\w+\\[", "new("));
        int uses = 0;
        while (brackets.find()) {
            uses++;
        }
        hold(uses == 3, "an array's index is used in Row alone, behind its tests");
    }

    private static void shortMethods(List<String> lines) {
        int start = -1;
        for (int i = 0; i < lines.size(); i++) {
            String line = lines.get(i);
            if (line.matches("( {4}){1,2}[A-Za-z].*\\) \\{")) {
                start = i;
            } else if (line.matches("( {4}){1,2}\\}") && start >= 0) {
                hold(i - start < 60, "the method of line " + (start + 1) + " is short");
                start = -1;
            }
        }
    }

    // ---- the room of a run

    private static void room() throws IllegalAccessException {
        HeapGames game = new HeapGames();
        callAll(game, 3);
        com.sun.management.ThreadMXBean threads =
                (com.sun.management.ThreadMXBean) ManagementFactory.getThreadMXBean();
        long before = threads.getCurrentThreadAllocatedBytes();
        callAll(game, 20);
        long made = threads.getCurrentThreadAllocatedBytes() - before;
        hold(made < 4096, "calls make nothing new, but some made " + made + " bytes");

        long[] size = sizeOf(game);
        hold(size[0] < 100, "an object consists of few objects: " + size[0]);
        hold(size[1] < 100_000, "an object has few fields and elements: " + size[1]);
    }

    private static void callAll(HeapGames game, int times) {
        for (int i = 0; i < times; i++) {
            for (int k = 1; k <= 10; k++) {
                game.setDigit(k, 7);
            }
            game.setObliging(2046 & ~i);
            game.setGrowing(1022);
            game.setMisere(i % 2 == 0);
            game.erase();
            for (char letter : (i % 2 == 0 ? "kayles" : ".7777777777").toCharArray()) {
                game.type(letter);
            }
            game.readRules();
            for (char letter : " 1!+2+ 3 +4!p ".toCharArray()) {
                game.type(letter);
            }
            game.readPosition();
            game.playOut(40);
            game.undo();
            game.lift(0);
            game.place(1);
            game.setPass(true);
            game.outcomeWith(false);
            game.census(10, true, i % 3);
            game.digest();
            game.type(i);
        }
    }

    private static long[] sizeOf(Object whole) throws IllegalAccessException {
        Set<Object> seen = Collections.newSetFromMap(new IdentityHashMap<>());
        ArrayDeque<Object> open = new ArrayDeque<>(List.of(whole));
        seen.add(whole);
        long cells = 0;
        while (!open.isEmpty()) {
            Object one = open.remove();
            if (one.getClass().isArray()) {
                cells += Array.getLength(one);
                continue;
            }
            for (Field field : one.getClass().getDeclaredFields()) {
                if (Modifier.isStatic(field.getModifiers())) {
                    continue;
                }
                cells++;
                field.setAccessible(true);
                Object part = field.get(one);
                if (!field.getType().isPrimitive() && part != null && seen.add(part)) {
                    open.add(part);
                }
            }
        }
        System.out.println("an object with its parts: " + seen.size() + " objects and arrays, " + cells
                + " fields and elements");
        return new long[] {seen.size(), cells};
    }
}
