import java.io.IOException;
import java.nio.file.Files;
import java.nio.file.Path;
import java.util.ArrayList;
import java.util.Arrays;
import java.util.LinkedHashSet;
import java.util.List;
import java.util.Set;
import java.util.regex.Matcher;
import java.util.regex.Pattern;
import java.util.stream.Stream;

/**
 * Looks up the sentences of the boundary tests in the document: each has to stand where its test says, and each word of
 * the Description and of the promises needs a test. So a sentence is found from its test, and a test from its sentence.
 */
public final class BoundaryIndexTest {
    private static final Path DOCUMENT = Path.of("../shared/DOC.md");
    private static final Path TESTS = Path.of("src/test/java");
    private static final String STRING = "\"((?:[^\"\\\\]|\\\\.)*)\"";
    private static final Pattern MARK = Pattern.compile("@Sentence\\(at = " + STRING + ", says = ((?:" + STRING
            + "[\\s+]*)+)\\)\\s*static void (\\w+)\\(");
    /** What begins like this tells what follows, and promises nothing by itself. */
    private static final List<String> ANNOUNCEMENTS = List.of("A solver for games", "Rules tell how many",
            "The class solves positions", "The constants:", "The constructor and the methods follow");
    private static final Set<String> OTHER_PLACES = Set.of("The public face", "Not promised");
    private static int wrong = 0;

    private record Quote(String place, String words, String test) {
    }

    /** A paragraph, an item of a list, or a line of the grammar. */
    private record Block(String place, boolean item, StringBuilder words) {
    }

    public static void main(String[] args) throws IOException {
        if (!Files.exists(DOCUMENT)) {
            System.out.println("there is no " + DOCUMENT + " to look sentences up in");
            return;
        }
        List<Quote> quotes = readQuotes();
        List<Quote> sentences = sentencesOf(blocksOf(Files.readAllLines(DOCUMENT)));
        Set<String> places = new LinkedHashSet<>();
        for (Quote sentence : sentences) {
            places.add(sentence.place);
            cover(sentence, quotes);
        }
        for (Quote quote : quotes) {
            lookUp(quote, sentences);
        }
        for (int promise = 1; promise <= 29; promise++) {
            hold(places.contains("Promise " + promise), "the document has the promise " + promise);
        }
        hold(quotes.size() > 100, "there are tests: " + quotes.size());
        System.out.println(wrong == 0 ? quotes.size() + " tests name all " + sentences.size() + " sentences"
                : wrong + " sentences are wrong");
        if (wrong != 0) {
            System.exit(1);
        }
    }

    private static void hold(boolean holds, String what) {
        if (!holds) {
            wrong++;
            System.out.println("not so: " + what);
        }
    }

    // ---- the tests

    private static List<Quote> readQuotes() throws IOException {
        List<Quote> quotes = new ArrayList<>();
        try (Stream<Path> files = Files.list(TESTS)) {
            for (Path file : files.sorted().toList()) {
                String source = Files.readString(file);
                Matcher mark = MARK.matcher(source);
                int found = 0;
                while (mark.find()) {
                    quotes.add(new Quote(mark.group(1), joined(mark.group(2)), mark.group(4)));
                    found++;
                }
                int marks = file.getFileName().toString().equals("BoundaryIndexTest.java") ? 0
                        : source.split("@Sentence", -1).length - 1;
                hold(found == marks, "each test of " + file + " names its sentence: " + found + " of " + marks);
            }
        }
        return quotes;
    }

    private static String joined(String strings) {
        StringBuilder words = new StringBuilder();
        Matcher string = Pattern.compile(STRING).matcher(strings);
        while (string.find()) {
            words.append(string.group(1).replace("\\\"", "\""));
        }
        return words.toString().trim();
    }

    // ---- the document

    private static List<Block> blocksOf(List<String> lines) {
        List<Block> blocks = new ArrayList<>();
        String section = "";
        String place = "";
        Block open = null;
        for (String line : lines) {
            if (line.startsWith("## ")) {
                section = line.substring(3).replaceAll(":.*", "");
                place = section;
            }
            if (line.isBlank() || line.matches("#.*|----.*|`[^`]*`")) {
                open = null;
                continue;
            }
            if (section.equals("Description") && open == null && !line.startsWith("- ")) {
                place = line.replaceAll("[.:,].*", "");
                line = line.replaceFirst("^[A-Z][a-z ]*\\. ", "");
            }
            boolean item = line.matches("- .*|  \\w+ = .*");
            boolean goesOn = open != null && !item && (!open.item || line.startsWith("  "));
            if (!goesOn) {
                open = new Block(place, item, new StringBuilder());
                blocks.add(open);
            }
            open.words.append(' ').append(line.trim());
        }
        return blocks;
    }

    private static List<Quote> sentencesOf(List<Block> blocks) {
        List<Quote> sentences = new ArrayList<>();
        for (Block block : blocks) {
            String words = block.words.toString().trim().replaceFirst("^- ", "").replace("`", "");
            for (String sentence : words.split("(?<=\\.) (?=[A-Z])")) {
                if (!OTHER_PLACES.contains(block.place) && ANNOUNCEMENTS.stream().noneMatch(sentence::startsWith)) {
                    sentences.add(new Quote(block.place, sentence, ""));
                }
            }
        }
        return sentences;
    }

    // ---- both

    private static void lookUp(Quote quote, List<Quote> sentences) {
        boolean found = sentences.stream().anyMatch(
                sentence -> sentence.place.equals(quote.place) && sentence.words.contains(quote.words));
        hold(found, quote.test + ": " + quote.place + " says \"" + quote.words + "\"");
    }

    /** Each letter and each digit of the sentence stands in what some test quotes. */
    private static void cover(Quote sentence, List<Quote> quotes) {
        boolean[] covered = new boolean[sentence.words.length()];
        for (Quote quote : quotes) {
            int from = quote.place.equals(sentence.place) ? sentence.words.indexOf(quote.words) : -1;
            if (from >= 0) {
                Arrays.fill(covered, from, from + quote.words.length(), true);
            }
        }
        StringBuilder rest = new StringBuilder();
        for (int i = 0; i < covered.length; i++) {
            rest.append(covered[i] ? "" : sentence.words.charAt(i));
        }
        hold(!rest.toString().matches(".*[A-Za-z0-9].*"),
                "a test holds to " + sentence.place + ": \"" + rest.toString().trim() + "\"");
    }
}
