import java.io.IOException;
import java.lang.reflect.Method;
import java.lang.reflect.Modifier;
import java.nio.file.Files;
import java.nio.file.Path;
import java.util.Set;
import java.util.TreeSet;
import java.util.regex.Matcher;
import java.util.regex.Pattern;

/** Makes the calls of README.md's examples, and looks whether each answers what stands behind it. */
public final class ReadmeTest {
    private static final Path README = Path.of("README.md");
    private static final String NEW_OBJECT = "HeapGames game = new HeapGames();";
    private static final Pattern EXAMPLE = Pattern.compile("```java\n(.*?)```", Pattern.DOTALL);
    private static final Pattern TEXT = Pattern.compile("typeAll\\(game, \"(.*)\"\\);");
    private static final Pattern CALL = Pattern.compile("game\\.(\\w+)\\((.*?)\\); +// (-?\\d+): .+");
    private static int wrong = 0;
    private static int calls = 0;

    public static void main(String[] args) throws IOException, ReflectiveOperationException {
        String readme = Files.readString(README);
        Matcher example = EXAMPLE.matcher(readme);
        while (example.find()) {
            if (example.group(1).contains(NEW_OBJECT)) {
                run(example.group(1));
            }
        }
        hold(calls >= 30, "the examples have calls: " + calls);
        for (String name : methods()) {
            hold(readme.contains("`" + name + "`"), "the method " + name + " is named");
        }
        System.out.println(wrong == 0 ? calls + " calls answer as README.md says" : wrong + " lines are wrong");
        if (wrong != 0) {
            System.exit(1);
        }
    }

    private static void hold(boolean holds, String what) {
        if (!holds) {
            wrong++;
            System.out.println("not so in README.md: " + what);
        }
    }

    private static Set<String> methods() {
        Set<String> names = new TreeSet<>();
        for (Method method : HeapGames.class.getDeclaredMethods()) {
            if (Modifier.isPublic(method.getModifiers())) {
                names.add(method.getName());
            }
        }
        return names;
    }

    private static void run(String example) throws ReflectiveOperationException {
        HeapGames game = null;
        for (String line : example.split("\n")) {
            Matcher text = TEXT.matcher(line);
            Matcher call = CALL.matcher(line);
            if (line.equals(NEW_OBJECT)) {
                game = new HeapGames();
            } else if (game != null && text.matches()) {
                for (char letter : text.group(1).toCharArray()) {
                    game.type(letter);
                }
            } else if (game != null && call.matches()) {
                calls++;
                long got = answer(game, call.group(1), call.group(2));
                hold(got == Long.parseLong(call.group(3)), line + " (it answers " + got + ")");
            } else {
                hold(false, "a line that this test can read: " + line);
            }
        }
    }

    private static long answer(HeapGames game, String name, String arguments) throws ReflectiveOperationException {
        String[] words = arguments.isEmpty() ? new String[0] : arguments.split(", ");
        Class<?>[] types = new Class<?>[words.length];
        Object[] values = new Object[words.length];
        for (int i = 0; i < words.length; i++) {
            boolean isBoolean = words[i].equals("true") || words[i].equals("false");
            types[i] = isBoolean ? boolean.class : int.class;
            values[i] = isBoolean ? (Object) Boolean.valueOf(words[i]) : (Object) Integer.valueOf(words[i]);
        }
        return ((Number) HeapGames.class.getMethod(name, types).invoke(game, values)).longValue();
    }
}
