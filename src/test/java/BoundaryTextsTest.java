/** The document's Texts, and the promises 6, 7, 8 and 13. */
public final class BoundaryTextsTest extends Boundaries {
    private static final String TENS = "3333333333";

    public static void main(String[] args) {
        runAll(BoundaryTextsTest.class);
    }

    // ---- what the tests of texts are told with

    /** The text can be read as rules, and the digits are these, all others being 0. */
    private static void dueRules(String text, String digits) {
        HeapGames game = new HeapGames();
        for (int k = 1; k <= 10; k++) {
            game.setDigit(k, 6);
        }
        due("readRules of '" + text + "'", digits.replace("0", "").length(), typed(game, text).readRules());
        for (int k = 1; k <= 10; k++) {
            int digit = k <= digits.length() ? digits.charAt(k - 1) - '0' : 0;
            due("digit " + k + " of '" + text + "'", digit, game.rule(k));
        }
    }

    private static void dueRulesFault(String text, int fault) {
        due("readRules of '" + text + "'", -2000 - fault, typed(new HeapGames(), text).readRules());
    }

    /** The text can be read as a position, which is told by another text, without blanks and in order. */
    private static void dueHeaps(String text, String position) {
        HeapGames game = typed(new HeapGames(), text);
        String heaps = position.replace("p", "");
        due("readPosition of '" + text + "'", heaps.isEmpty() ? 0 : heaps.split("\\+").length, game.readPosition());
        duePosition("after '" + text + "'", position, game);
    }

    private static void dueFault(String text, int fault) {
        due("readPosition of '" + text + "'", -2000 - fault, typed(new HeapGames(), text).readPosition());
    }

    private static String blanks(int number) {
        return " ".repeat(number);
    }

    // ---- Texts: the length

    @Sentence(at = "Texts", says = "There is a text of at most 40 bytes, for two purposes:")
    static void textsFortyBytesForBothPurposes() {
        dueRules(blanks(29) + ".1234567012", "1234567012");
        dueRules(".1234567012" + blanks(29), "1234567012");
        dueRules(blanks(34) + "kayles", "77");
        dueHeaps(blanks(10) + "1!+1!+1!+1!+1!+1!+1!+1!+1!+1!p", "1!+1!+1!+1!+1!+1!+1!+1!+1!+1!p");
        dueHeaps("01+01+01+01+01+01+01+01+01+1" + blanks(12), "1+1+1+1+1+1+1+1+1+1");
        dueHeaps(blanks(40), "");
        HeapGames game = typed(new HeapGames(), blanks(39) + "p");
        due("the byte 41", FULL, game.type(' '));
        due("the text of 40 is read", 0, game.readPosition());
        due("the pass is there", 1, game.count(2));
        due("a byte after it", 1, game.type(' '));
    }

    // ---- Texts: the grammar

    @Sentence(at = "Texts", says = "rules = name | \".\" octal { octal }")
    static void textsRulesAreANameOrOctals() {
        dueRules("nim", TENS);
        dueRules(".5", "5");
        dueRules(".51", "51");
        dueRulesFault(".", 1);
        dueRulesFault("5", 0);
        dueRulesFault("nim.5", 3);
        dueRulesFault(".5nim", 2);
        dueRulesFault("nim nim", 4);
        dueRulesFault(".5.5", 2);
        dueRulesFault("..5", 1);
        dueRulesFault("", 0);
    }

    @Sentence(at = "Texts", says = "position = [ heap { \"+\" heap } ] [ \"p\" ]")
    static void textsPositionsAreHeapsAndAPass() {
        dueHeaps("", "");
        dueHeaps("p", "p");
        dueHeaps("2", "2");
        dueHeaps("2p", "2p");
        dueHeaps("2+3p", "2+3p");
        dueHeaps("2+3+1", "1+2+3");
        dueFault("+", 0);
        dueFault("+2", 0);
        dueFault("2+", 2);
        dueFault("2+p", 2);
        dueFault("2++3", 2);
        dueFault("p2", 1);
        dueFault("p+2", 1);
        dueFault("2p+3", 2);
        dueFault("2p3", 2);
        dueFault("2 3", 2);
    }

    @Sentence(at = "Texts", says = "heap = number [ \"!\" ]")
    static void textsHeapsAreBoundByASignBehind() {
        dueHeaps("2!", "2!");
        dueHeaps("2!+2", "2+2!");
        dueHeaps("10!", "10!");
        dueFault("!", 0);
        dueFault("!2", 0);
        dueFault("2!!", 2);
        dueFault("2!3", 2);
        dueFault("2+!", 2);
        dueFault("p!", 1);
        dueFault("2p!", 2);
    }

    // ---- Texts: names

    @Sentence(at = "Texts", says = "A name is the longest possible sequence of small letters")
    static void textsNamesAreAsLongAsPossible() {
        dueRulesFault("nima", 0);
        dueRulesFault("nimz", 0);
        dueRulesFault("nim`", 3);
        dueRulesFault("nim{", 3);
        dueRulesFault("nimA", 3);
        dueRulesFault("nim0", 3);
        dueRulesFault("nimkayles", 0);
        dueRulesFault("a", 0);
        dueRulesFault("z", 0);
        dueRulesFault("`", 0);
        dueRulesFault("{", 0);
        dueRulesFault("a".repeat(40), 0);
    }

    @Sentence(at = "Texts", says = "and is one of nim (all digits are 3), kayles (the digits of 1 and 2 are 7), dawson (the "
            + "digits of 1, 2, 3 are 1, 3, 7) and guiles (the digits of 1 and 2 are 1 and 5), all others being 0.")
    static void textsTheFourNames() {
        dueRules("nim", TENS);
        dueRules("kayles", "77");
        dueRules("dawson", "137");
        dueRules("guiles", "15");
        String[] names = {"nim", "kayles", "dawson", "guiles"};
        for (String name : names) {
            dueRulesFault(name.substring(1), 0);
            dueRulesFault(name.substring(0, name.length() - 1), 0);
            dueRulesFault(name + "s", 0);
            dueRulesFault("a" + name, 0);
            dueRulesFault(name.toUpperCase(), 0);
            for (int i = 0; i < name.length(); i++) {
                dueRulesFault(name.substring(0, i) + "x" + name.substring(i + 1), 0);
            }
        }
    }

    // ---- Texts: octals

    @Sentence(at = "Texts", says = "An octal is a digit from 0 to 7;")
    static void textsOctalsFrom0To7() {
        dueRules(".0", "0");
        dueRules(".7", "7");
        dueRules(".01234567", "01234567");
        dueRulesFault(".8", 1);
        dueRulesFault(".9", 1);
        dueRulesFault("./", 1);
        dueRulesFault(".08", 2);
        dueRulesFault(".7/", 2);
        dueRulesFault(".78", 2);
        dueRulesFault(".-1", 1);
    }

    @Sentence(at = "Texts", says = "at most 10 of them stand one after the other, for the numbers 1, 2, 3 and so on; digits "
            + "that are not written are 0.")
    static void textsTheTenthAndTheEleventhOctal() {
        dueRules(".123456712", "123456712");
        dueRules(".1234567123", "1234567123");
        dueRulesFault(".12345671234", 11);
        dueRulesFault(".00000000000", 11);
        dueRulesFault(".12345671238", 11);
        dueRulesFault(".1234567128", 10);
        dueRulesFault(".123456712345", 11);
        dueRules(".0000000007", "0000000007");
        dueRules(".7", "7000000000");
    }

    @Sentence(at = "Texts", says = "digits that are not written are 0.")
    static void textsDigitsOfEarlierTextsAreGone() {
        String[] earlier = {".7777777777", "nim", ".77777777777", ".777x", "dawson"};
        for (String text : earlier) {
            HeapGames game = typed(new HeapGames(), text);
            game.readRules();
            game.erase();
            due("readRules of .4", 1, typed(game, ".4").readRules());
            for (int k = 1; k <= 10; k++) {
                due("digit " + k + " by .4 after " + text, k == 1 ? 4 : 0, game.rule(k));
            }
        }
    }

    // ---- Texts: numbers

    @Sentence(at = "Texts", says = "A number is one or two digits, as many as there are, and at least 1 (05 is 5); a third "
            + "digit cannot stand;")
    static void textsNumbersOfOneAndTwoDigits() {
        for (int size = 1; size <= 9; size++) {
            dueHeaps("" + size, "" + size);
            dueHeaps("0" + size, "" + size);
        }
        dueHeaps("10", "10");
        dueFault("0", 0);
        dueFault("00", 0);
        dueFault("11", 0);
        dueFault("99", 0);
        dueHeaps("05+05", "5+5");
        dueHeaps("9+01", "1+9");
        dueFault("/", 0);
        dueFault(":", 0);
        dueFault("1/", 1);
        dueFault("1:", 1);
    }

    @Sentence(at = "Texts", says = "a third digit cannot stand;")
    static void textsNumbersOfThreeDigits() {
        dueFault("010", 2);
        dueFault("011", 2);
        dueFault("100", 2);
        dueFault("101", 2);
        dueFault("055", 2);
        dueFault("1+010", 4);
        dueFault("1+0100", 4);
        dueFault("010+0", 2);
        dueFault("000", 0);
        dueFault("001", 0);
        dueFault("110", 0);
        dueFault("1+001", 2);
        dueFault("1+100", 2);
    }

    @Sentence(at = "Texts", says = "\"!\" means that the heap is bound, \"p\" that the pass is there.")
    static void textsBoundHeapsAndThePass() {
        dueHeaps("3", "3");
        dueHeaps("3!", "3!");
        dueHeaps("3p", "3p");
        dueHeaps("3!p", "3!p");
        dueHeaps("1+3!+3", "1+3+3!");
        dueFault("3\"", 1);
        dueFault("3o", 1);
        dueFault("3q", 1);
        dueFault("3P", 1);
        HeapGames game = game(".0", "3p");
        typed(game, "3").readPosition();
        due("the pass of a text without it", 0, game.count(2));
    }

    @Sentence(at = "Texts", says = "Braces mean repetition, zero times or more, and brackets at most once.")
    static void textsRepetitions() {
        dueRules(".1", "1");
        dueRules(".11", "11");
        dueHeaps("1", "1");
        dueHeaps("1+1", "1+1");
        dueHeaps("1+1+1+1+1+1+1+1+1+1", "1+1+1+1+1+1+1+1+1+1");
        dueFault("1+1+1+1+1+1+1+1+1+1+1", 20);
        dueFault("1+1+1+1+1+1+1+1+1+1+", 20);
        dueHeaps("1!", "1!");
        dueFault("1!!", 2);
        dueFault("1! !", 3);
        dueFault("pp", 1);
        dueFault("p p", 2);
        dueFault("1pp", 2);
    }

    // ---- Texts: blanks

    @Sentence(at = "Texts", says = "Blanks (byte 32) can stand before and after the whole text, and each heap, sign, number "
            + "and \"p\",")
    static void textsBlanksWhereTheyCanStand() {
        dueRules(" nim", TENS);
        dueRules("nim ", TENS);
        dueRules("   dawson   ", "137");
        dueRules("  .12  ", "12");
        dueHeaps(" ", "");
        dueHeaps(" p", "p");
        dueHeaps("p ", "p");
        dueHeaps(" 2", "2");
        dueHeaps("2 ", "2");
        dueHeaps("2 !", "2!");
        dueHeaps("2! ", "2!");
        dueHeaps("2 +3", "2+3");
        dueHeaps("2+ 3", "2+3");
        dueHeaps("2! +3", "2!+3");
        dueHeaps("2 p", "2p");
        dueHeaps("2! p", "2!p");
        dueHeaps("   2   !   +   03   !   +   1   p   ", "1+2!+3!p");
    }

    @Sentence(at = "Texts", says = "Blanks (byte 32)")
    static void textsOnlyByte32IsABlank() {
        for (int letter = 0; letter < 128; letter++) {
            HeapGames game = new HeapGames();
            game.type(letter);
            typeAll(game, "nim");
            int want = letter == ' ' ? 10 : letter == '.' ? -2001 : -2000;
            due("rules with the byte " + letter + " ahead", want, game.readRules());
            game.erase();
            game.type('p');
            game.type(letter);
            due("a position with the byte " + letter + " behind", letter == ' ' ? 0 : -2001, game.readPosition());
        }
    }

    private static void typeAll(HeapGames game, String text) {
        for (int i = 0; i < text.length(); i++) {
            game.type(text.charAt(i));
        }
    }

    @Sentence(at = "Texts", says = "but not within numbers and names, and not between \".\" and the last octal.")
    static void textsBlanksWhereTheyCannotStand() {
        dueFault("1 0", 2);
        dueFault("0 5", 0);
        dueFault("1+0 5", 2);
        dueRulesFault("n im", 0);
        dueRulesFault("ni m", 0);
        dueRulesFault("kay les", 0);
        dueRulesFault(". 1", 1);
        dueRulesFault(". ", 1);
        // The blank behind an octal could be behind the whole text, so it is the octal behind it that cannot stand.
        dueRulesFault(".1 2", 3);
        dueRulesFault(".1234567123 4", 12);
    }

    // ---- Texts: faults

    @Sentence(at = "Texts", says = "The fault of a text is the index, from 0, of the first byte that cannot stand at its "
            + "place;")
    static void textsFaultIsAnIndexFrom0() {
        dueFault("x", 0);
        dueFault(" x", 1);
        dueFault("2x", 1);
        dueFault("2+3x", 3);
        dueFault("2+3px", 4);
        dueFault(blanks(39) + "x", 39);
        dueRulesFault("N", 0);
        dueRulesFault(" N", 1);
        dueRulesFault("nim!", 3);
        dueRulesFault(".1x", 2);
        dueRulesFault(blanks(39) + "x", 39);
    }

    @Sentence(at = "Texts", says = "for a name that is none of these (also if the text ends within one), and for a number "
            + "that is 0, or with which there would be more than 10 counters, it is the index of its first byte;")
    static void textsFaultOfNamesAndNumbers() {
        dueRulesFault("n", 0);
        dueRulesFault("  ni", 2);
        dueRulesFault(" kayle", 1);
        dueRulesFault(" chess ", 1);
        dueRulesFault(blanks(37) + "nin", 37);
        dueFault("  0", 2);
        dueFault("1+00", 2);
        dueFault("1!+0", 3);
        dueHeaps("5+5", "5+5");
        dueFault("5+6", 2);
        dueHeaps("1+2+3+4", "1+2+3+4");
        dueFault("1+2+3+5", 6);
        dueFault("10+ 1", 4);
        dueFault("1+10", 2);
        dueFault(" 11", 1);
        dueFault("3!+4!+04", 6);
    }

    @Sentence(at = "Texts", says = "and it is the length of the text if the text ends too early.")
    static void textsFaultOfATextThatEndsTooEarly() {
        dueRulesFault("", 0);
        dueRulesFault(" ", 1);
        dueRulesFault(blanks(40), 40);
        dueRulesFault(".", 1);
        dueRulesFault("  .", 3);
        dueRulesFault(blanks(39) + ".", 40);
        dueFault("2+", 2);
        dueFault("2+ ", 3);
        dueFault("10+", 3);
        dueFault("2!+", 3);
        dueFault(blanks(38) + "2+", 40);
    }

    @Sentence(at = "Texts", says = "If a text has several faults, the one with the least index counts.")
    static void textsTheLeastOfSeveralFaults() {
        dueFault("11x", 0);
        dueFault("x11", 0);
        dueFault("2x+11", 1);
        dueFault("2+11x", 2);
        dueFault("0+0", 0);
        dueFault("0+", 0);
        dueFault("9+2+", 2);
        dueFault("9+2p4", 2);
        dueFault("9p+2", 2);
        dueFault("111", 0);
        dueFault("2 3+", 2);
        dueRulesFault("chess!", 0);
        dueRulesFault("chess nim", 0);
        dueRulesFault("!chess", 0);
        dueRulesFault(".8!", 1);
        dueRulesFault("nim chess", 4);
        dueRulesFault(".12345671238x", 11);
    }

    // ---- Promise 6: type

    @Sentence(at = "Promise 6", says = "Appends a byte to the text.")
    static void promise6AppendsBehind() {
        HeapGames game = new HeapGames();
        game.type('1');
        game.type('0');
        due("readPosition", 1, game.readPosition());
        due("the heap of 10", 10, game.heap(0, 0));
        game.type('n');
        game.type('i');
        due("of a part of a name", -2000, game.readRules());
        game.type('m');
        due("of the name", 10, game.readRules());
    }

    @Sentence(at = "Promise 6", says = "letter: 0 to 127")
    static void promise6LettersFrom0To127() {
        HeapGames game = new HeapGames();
        due("type(-1)", BAD, game.type(-1));
        due("type(0)", 1, game.type(0));
        due("type(127)", 2, game.type(127));
        due("type(128)", BAD, game.type(128));
        due("type of the least", BAD, game.type(LEAST));
        due("type of the greatest", BAD, game.type(GREATEST));
        due("type(256 + 65)", BAD, game.type(321));
        due("count(6)", 2, game.count(6));
    }

    @Sentence(at = "Promise 6", says = "Returns the length of the text then; BAD; FULL if it has 40 bytes.")
    static void promise6FullAt40Bytes() {
        HeapGames game = new HeapGames();
        for (int length = 1; length <= 40; length++) {
            due("type " + length, length, game.type('x'));
        }
        due("type 41", FULL, game.type('x'));
        due("type 41 again", FULL, game.type(0));
        due("type 41 of a bad one", BAD, game.type(-1));
        due("count(6)", 40, game.count(6));
        game.erase();
        due("type after erase", 1, game.type('x'));
    }

    // ---- Promise 7: erase

    @Sentence(at = "Promise 7", says = "Empties the text.")
    static void promise7EmptiesTheText() {
        HeapGames game = typed(new HeapGames(), "x".repeat(40));
        game.erase();
        due("count(6)", 0, game.count(6));
        due("the position of the empty text", 0, game.readPosition());
        due("the text starts again", 1, game.type('p'));
        due("the position of the new text", 0, game.readPosition());
        due("its pass", 1, game.count(2));
        long before = game.digest();
        typed(game, "abc").erase();
        due("digest", before, game.digest());
    }

    @Sentence(at = "Promise 7", says = "Empties the text.")
    static void promise7LeavesNothingOfTheTextBehind() {
        String[] texts = {"", " ", "1", "1+", "10", "1!", "p", ".", ".1", "ni", "nim"};
        int[] asRules = {-2000, -2001, -2000, -2000, -2000, -2000, -2000, -2001, 1, -2000, 10};
        int[] asPosition = {0, 0, 1, -2002, 1, 1, 0, -2000, -2000, -2000, -2000};
        for (char before : " 0159+!p.mx".toCharArray()) {
            HeapGames game = typed(new HeapGames(), String.valueOf(before).repeat(40));
            game.erase();
            for (int i = 0; i < texts.length; i++) {
                due("rules '" + texts[i] + "' after " + before, asRules[i], typed(game, texts[i]).readRules());
                game.erase();
                due("position '" + texts[i] + "' after " + before, asPosition[i], typed(game, texts[i]).readPosition());
                game.erase();
            }
        }
    }

    @Sentence(at = "Promise 7", says = "Returns the length that it had.")
    static void promise7ReturnsTheLength() {
        HeapGames game = new HeapGames();
        due("of no bytes", 0, game.erase());
        game.type(0);
        due("of one byte", 1, game.erase());
        typed(game, "x".repeat(39));
        due("of 39 bytes", 39, game.erase());
        typed(game, "x".repeat(40));
        due("of 40 bytes", 40, game.erase());
        due("of no bytes again", 0, game.erase());
    }

    // ---- Promise 8: readRules

    @Sentence(at = "Promise 8", says = "Sets all digits by the text, and empties the text.")
    static void promise8SetsAllDigitsAndEmptiesTheText() {
        dueRules(".1", "1000000000");
        dueRules(".0000000001", "0000000001");
        HeapGames game = typed(new HeapGames(), "nim");
        game.readRules();
        due("count(6)", 0, game.count(6));
        due("readRules of the empty text", -2000, game.readRules());
        due("the digits stay then", 3, game.rule(10));
    }

    @Sentence(at = "Promise 8", says = "The other rules stay.")
    static void promise8OtherRulesAndThePositionStay() {
        HeapGames game = misere(growing(obliging(game("nim", "1!+2p"), 2046), 1022));
        typed(game, "dawson").readRules();
        due("rule(11)", 2046, game.rule(11));
        due("rule(12)", 1022, game.rule(12));
        due("rule(13)", 1, game.rule(13));
        duePosition("after readRules", "1!+2p", game);
        due("history", 1, game.count(5));
    }

    @Sentence(at = "Promise 8", says = "Returns how many digits are not 0;")
    static void promise8ReturnsHowManyAreNot0() {
        due(".0", 0, typed(new HeapGames(), ".0").readRules());
        due("ten times 0", 0, typed(new HeapGames(), ".0000000000").readRules());
        due(".0000000001", 1, typed(new HeapGames(), ".0000000001").readRules());
        due(".101", 2, typed(new HeapGames(), ".101").readRules());
        due("nine of ten", 9, typed(new HeapGames(), ".7777077777").readRules());
        due("ten of ten", 10, typed(new HeapGames(), ".7777777777").readRules());
        due("dawson", 3, typed(new HeapGames(), "dawson").readRules());
    }

    @Sentence(at = "Promise 8", says = "-2000 - p if the text has the fault p as rules (the text stays).")
    static void promise8FaultsKeepTheTextAndTheDigits() {
        String[] texts = {"", "x", ".12345678", ".11111111111", "nim nim", blanks(40)};
        int[] faults = {0, 0, 8, 11, 4, 40};
        for (int i = 0; i < texts.length; i++) {
            HeapGames game = typed(game("nim", "3"), texts[i]);
            long before = game.digest();
            due("fault of '" + texts[i] + "'", -2000 - faults[i], game.readRules());
            due("digest", before, game.digest());
            due("count(6)", texts[i].length(), game.count(6));
            due("the same fault again", -2000 - faults[i], game.readRules());
        }
    }

    // ---- Promise 13: readPosition

    @Sentence(at = "Promise 13", says = "Replaces the position by that of the text, and empties the text.")
    static void promise13ReplacesThePosition() {
        HeapGames game = game("nim", "10p");
        due("ten counters by ten others", 2, typed(game, "5!+5").readPosition());
        duePosition("after it", "5+5!", game);
        due("count(6)", 0, game.count(6));
        due("the empty text", 0, game.readPosition());
        duePosition("after the empty text", "", game);
        due("history", 3, game.count(5));
        due("the digits stay", 3, game.rule(1));
        due("a text with a fault", -2005, typed(game, "1!+2px").readPosition());
        game.erase();
        due("the text after it", 1, typed(game, "3").readPosition());
        duePosition("nothing of the earlier text", "3", game);
    }

    @Sentence(at = "Promise 13", says = "Returns the number of heaps;")
    static void promise13ReturnsTheNumberOfHeaps() {
        due("of no heaps", 0, typed(new HeapGames(), "p").readPosition());
        due("of one heap", 1, typed(new HeapGames(), "10").readPosition());
        due("of ten heaps", 10, typed(new HeapGames(), "1+1!+1+1!+1+1!+1+1!+1+1!").readPosition());
    }

    @Sentence(at = "Promise 13", says = "-2000 - p if the text has the fault p as a position (the text stays).")
    static void promise13FaultsKeepTheTextAndThePosition() {
        String[] texts = {"x", "nim", "2+", "5+6", "100", blanks(38) + "1+"};
        int[] faults = {0, 0, 2, 2, 2, 40};
        for (int i = 0; i < texts.length; i++) {
            HeapGames game = typed(game("nim", "3!+1p"), texts[i]);
            long before = game.digest();
            due("fault of '" + texts[i] + "'", -2000 - faults[i], game.readPosition());
            due("digest", before, game.digest());
            due("count(6)", texts[i].length(), game.count(6));
            due("history", 1, game.count(5));
            due("the same fault again", -2000 - faults[i], game.readPosition());
        }
    }
}
