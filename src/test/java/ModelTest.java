import java.util.ArrayDeque;
import java.util.ArrayList;
import java.util.Collections;
import java.util.HashMap;
import java.util.HashSet;
import java.util.LinkedHashMap;
import java.util.LinkedHashSet;
import java.util.List;
import java.util.Map;
import java.util.Random;
import java.util.Set;
import java.util.TreeSet;
import java.util.regex.Matcher;
import java.util.regex.Pattern;

/**
 * Plays random runs of calls, all short texts and all positions on the class and on a model that was written from the
 * document alone, in another way: positions are sorted lists, outcomes are found in rounds, and texts are judged by
 * regular expressions.
 */
public final class ModelTest {
    private static final int RUNS = 1000;
    private static final int CALLS = 150;

    public static void main(String[] args) {
        int wrong = 0;
        Set<String> called = new TreeSet<>();
        for (int run = 0; run < RUNS && wrong < 5; run++) {
            wrong += new Driver(run).play(called) ? 0 : 1;
        }
        if (called.size() != 28) {
            wrong++;
            System.out.println("the runs call only " + called);
        }
        wrong += new Sweep().texts(" 0159+!p", 5) + new Sweep().texts(" .078nim", 5) + new Sweep().texts("1+!p x", 6);
        wrong += new Sweep().positions(2046, 1022, true) + new Sweep().positions(10, 20, false);
        System.out.println(wrong == 0 ? "the class and the model agree" : wrong + " runs are wrong");
        if (wrong != 0) {
            System.exit(1);
        }
    }

    /** One run: random calls until the first answer that differs. */
    private static final class Driver {
        private final int run;
        private final Random random;
        private final HeapGames game = new HeapGames();
        private final Model model = new Model();
        private final List<String> log = new ArrayList<>();
        private boolean right = true;

        Driver(int run) {
            this.run = run;
            this.random = new Random(run);
        }

        boolean play(Set<String> called) {
            for (int i = 0; i < CALLS && right; i++) {
                int choice = random.nextInt(100);
                if (choice < 12) {
                    changeRules();
                } else if (choice < 20) {
                    typeText(randomRulesText());
                    call("readRules", game.readRules(), model.readRules());
                } else if (choice < 32) {
                    typeText(randomPositionText());
                    call("readPosition", game.readPosition(), model.readPosition());
                } else if (choice < 52) {
                    changePosition();
                } else {
                    ask();
                }
                if (right && random.nextInt(4) == 0) {
                    call("digest", game.digest(), model.digest());
                }
            }
            for (String line : log) {
                called.add(line.substring(0, line.indexOf(' ')));
            }
            if (!right) {
                System.out.println("run " + run + ":");
                log.forEach(System.out::println);
            }
            return right;
        }

        private void call(String call, long got, long due) {
            log.add(call + " -> " + got + (got == due ? "" : ", due is " + due));
            right &= got == due;
        }

        private int near(int low, int high) {
            if (random.nextInt(60) == 0) {
                int[] far = {Integer.MIN_VALUE, Integer.MAX_VALUE, -1, 0, 64, 1 << 30, Integer.MIN_VALUE + 1};
                return far[random.nextInt(far.length)];
            }
            int margin = random.nextInt(8) == 0 ? 1 : 0;
            return low - margin + random.nextInt(high - low + 1 + 2 * margin);
        }

        private void changeRules() {
            int a = near(1, 10);
            if (random.nextBoolean()) {
                a = near(1, 4);
            }
            int b = near(0, 7);
            boolean c = random.nextBoolean();
            int set = random.nextInt(3) == 0 ? random.nextInt(2048) & ~1 : 2 << random.nextInt(10);
            if (random.nextInt(3) == 0) {
                set = random.nextInt(9) == 0 ? random.nextInt() : 0;
            }
            switch (random.nextInt(4)) {
                case 0 -> call("setDigit " + a + " " + b, game.setDigit(a, b), model.setDigit(a, b));
                case 1 -> call("setObliging " + set, game.setObliging(set), model.setObliging(set));
                case 2 -> call("setGrowing " + set, game.setGrowing(set), model.setGrowing(set));
                default -> call("setMisere " + c, game.setMisere(c), model.setMisere(c));
            }
        }

        private void typeText(String text) {
            if (random.nextInt(10) != 0) {
                call("erase", game.erase(), model.erase());
            }
            for (int i = 0; i < text.length(); i++) {
                int letter = random.nextInt(200) == 0 ? near(0, 127) : text.charAt(i);
                call("type " + letter, game.type(letter), model.type(letter));
            }
        }

        private String blanks() {
            return random.nextInt(5) == 0 ? " ".repeat(1 + random.nextInt(2)) : "";
        }

        private String spoilt(String text) {
            if (random.nextInt(3) != 0 || text.isEmpty()) {
                return text;
            }
            String signs = " 0123456789+!p.nimkayles8Az";
            int at = random.nextInt(text.length());
            String sign = String.valueOf(signs.charAt(random.nextInt(signs.length())));
            return switch (random.nextInt(4)) {
                case 0 -> text.substring(0, at);
                case 1 -> text.substring(0, at) + sign + text.substring(at);
                case 2 -> text.substring(0, at) + sign + text.substring(at + 1);
                default -> text + sign;
            };
        }

        private String randomRulesText() {
            StringBuilder text = new StringBuilder(blanks());
            if (random.nextInt(3) == 0) {
                text.append(List.of("nim", "kayles", "dawson", "guiles").get(random.nextInt(4)));
            } else {
                text.append('.');
                int digits = 1 + random.nextInt(random.nextInt(8) == 0 ? 11 : 4);
                for (int i = 0; i < digits; i++) {
                    text.append(random.nextInt(8));
                }
            }
            return spoilt(text.append(blanks()).toString());
        }

        private String randomPositionText() {
            StringBuilder text = new StringBuilder(blanks());
            int heaps = random.nextInt(6);
            int room = 10;
            for (int i = 0; i < heaps && (room > 0 || random.nextInt(9) == 0); i++) {
                int size = 1 + random.nextInt(Math.max(1, Math.min(room, 1 + random.nextInt(10))));
                room -= size;
                text.append(i > 0 ? "+" + blanks() : "");
                text.append(random.nextInt(9) == 0 && size < 10 ? "0" : "").append(size).append(blanks());
                text.append(random.nextInt(4) == 0 ? "!" + blanks() : "");
            }
            text.append(random.nextInt(3) == 0 ? "p" : "").append(blanks());
            return spoilt(text.toString());
        }

        private void changePosition() {
            boolean c = random.nextBoolean();
            int size = random.nextInt(3) == 0 ? near(1, 10) : near(1, 3);
            int heap = near(0, Math.max(0, game.count(0) - 1));
            int move = near(0, Math.max(0, game.count(4) - 1));
            int most = near(1, random.nextInt(3) == 0 ? 40 : 3);
            switch (random.nextInt(9)) {
                case 0, 1 -> call("place " + size, game.place(size), model.place(size));
                case 2 -> call("lift " + heap, game.lift(heap), model.lift(heap));
                case 3 -> call("setPass " + c, game.setPass(c), model.setPass(c));
                case 4 -> call("undo", game.undo(), model.undo());
                case 5, 6, 7 -> call("play " + move, game.play(move), model.play(move));
                default -> call("playOut " + most, game.playOut(most), model.playOut(most));
            }
        }

        private void ask() {
            int what = near(0, 7);
            boolean c = random.nextBoolean();
            int heap = near(0, Math.max(0, game.count(0) - 1));
            int move = near(0, Math.max(0, game.count(4) - 1));
            int ten = random.nextInt(5) == 0 ? near(0, 10) : near(0, 6);
            switch (random.nextInt(16)) {
                case 0 -> call("rule " + what * 2, game.rule(what * 2), model.rule(what * 2));
                case 1 -> call("rule " + (ten + 4), game.rule(ten + 4), model.rule(ten + 4));
                case 2 -> call("heap " + heap + " " + what / 2, game.heap(heap, what / 2), model.heap(heap, what / 2));
                case 3, 4 -> call("move " + move + " " + what, game.move(move, what), model.move(move, what));
                case 5 -> call("outcome", game.outcome(), model.outcome());
                case 6 -> call("distance", game.distance(), model.distance());
                case 7 -> call("best", game.best(), model.best());
                case 8 -> call("good", game.good(), model.good());
                case 9 -> call("outcomeWith " + c, game.outcomeWith(c), model.outcomeWith(c));
                case 10 -> {
                    int outcome = near(0, 2);
                    call("census " + ten + " " + c + " " + outcome,
                            game.census(ten, c, outcome), model.census(ten, c, outcome));
                }
                case 11 -> {
                    int size = near(0, 60);
                    call("grundy " + size, game.grundy(size), model.grundy(size));
                }
                case 12 -> call("nimSum", game.nimSum(), model.nimSum());
                case 13 -> call("period " + what / 3, game.period(what / 3), model.period(what / 3));
                default -> call("count " + what, game.count(what), model.count(what));
            }
        }
    }

    /** Asks the class and the model for all things of a kind, with a new object before one has had too many calls. */
    private static final class Sweep {
        private static final int MOST_CALLS = 400;

        private final Model model = new Model();
        private HeapGames game = new HeapGames();
        private int calls;
        private int wrong;

        /** How many of the texts of some signs and up to a length are not read alike. */
        int texts(String signs, int longest) {
            List<String> texts = new ArrayList<>(List.of(""));
            for (int i = 0; i < texts.size() && texts.get(i).length() < longest; i++) {
                for (char sign : signs.toCharArray()) {
                    texts.add(texts.get(i) + sign);
                }
            }
            for (String text : texts) {
                start(text);
                compare("readRules of '" + text + "'", game.readRules(), model.readRules());
                start(text);
                compare("readPosition of '" + text + "'", game.readPosition(), model.readPosition());
            }
            return wrong;
        }

        /** How many of all positions have not the same digest by some rules. */
        int positions(int obliging, int growing, boolean misere) {
            for (int k = 1; k <= 10; k++) {
                model.setDigit(k, k * 5 % 8);
            }
            model.setObliging(obliging);
            model.setGrowing(growing);
            model.setMisere(misere);
            List<String> positions = new ArrayList<>(List.of("", "p"));
            addPositions("", 1, 10, positions);
            for (String position : positions) {
                start(position);
                compare("heaps of '" + position + "'", game.readPosition(), model.readPosition());
                compare("digest of '" + position + "'", game.digest(), model.digest());
                compare("undo of '" + position + "'", game.undo(), model.undo());
            }
            return positions.size() == 2430 ? wrong : wrong + 1;
        }

        private static void addPositions(String heaps, int least, int room, List<String> all) {
            for (int size = least; size <= room; size++) {
                for (String bound : List.of("", "!")) {
                    if (size > least || heaps.isEmpty() || !heaps.endsWith("!") || bound.equals("!")) {
                        String more = heaps + (heaps.isEmpty() ? "" : "+") + size + bound;
                        all.add(more);
                        all.add(more + "p");
                        addPositions(more, size, room - size, all);
                    }
                }
            }
        }

        private void start(String text) {
            if (calls == 0 || calls > MOST_CALLS) {
                startWithANewObject();
            }
            game.erase();
            model.erase();
            for (char letter : text.toCharArray()) {
                game.type(letter);
                model.type(letter);
            }
            calls += text.length() + 4;
        }

        private void startWithANewObject() {
            game = new HeapGames();
            for (int k = 1; k <= 10; k++) {
                game.setDigit(k, model.rule(k));
            }
            game.setObliging(model.rule(11));
            game.setGrowing(model.rule(12));
            game.setMisere(model.rule(13) == 1);
            calls = 13;
        }

        private void compare(String call, long got, long due) {
            if (got != due) {
                wrong++;
                System.out.println(call + " answered " + got + ", due is " + due);
            }
        }
    }

    /** A heap; the natural order is the document's. */
    private record Heap(int size, boolean bound) implements Comparable<Heap> {
        @Override
        public int compareTo(Heap other) {
            return size != other.size ? Integer.compare(size, other.size) : Boolean.compare(bound, other.bound);
        }
    }

    private record Position(List<Heap> heaps, boolean pass) {
        static Position of(List<Heap> heaps, boolean pass) {
            List<Heap> sorted = new ArrayList<>(heaps);
            Collections.sort(sorted);
            return new Position(List.copyOf(sorted), pass);
        }

        int counters() {
            return heaps.stream().mapToInt(Heap::size).sum();
        }

        boolean anyBound() {
            return heaps.stream().anyMatch(Heap::bound);
        }
    }

    private record Move(int kind, int size, int k, int smaller, int greater, Position target) {
    }

    private record Solved(int outcome, int distance) {
    }

    /** The document, told once more. */
    private static final class Model {
        private final int[] digits = new int[11];
        private int obliging;
        private int growing;
        private boolean misere;
        private String text = "";
        private Position here = new Position(List.of(), false);
        private final List<Position> history = new ArrayList<>();
        private final Map<Position, Solved> solutions = new HashMap<>();
        private final Map<List<Integer>, int[]> knownValues = new HashMap<>();

        int setDigit(int k, int digit) {
            if (k < 1 || k > 10 || digit < 0 || digit > 7) {
                return -2;
            }
            int before = digits[k];
            digits[k] = digit;
            solutions.clear();
            return before;
        }

        private static boolean isSet(int numbers, int most) {
            for (int bit = 0; bit < 32; bit++) {
                if ((numbers >>> bit & 1) == 1 && (bit < 1 || bit > most)) {
                    return false;
                }
            }
            return true;
        }

        int setObliging(int numbers) {
            if (!isSet(numbers, 10)) {
                return -2;
            }
            int before = obliging;
            obliging = numbers;
            solutions.clear();
            return before;
        }

        int setGrowing(int sizes) {
            if (!isSet(sizes, 9)) {
                return -2;
            }
            int before = growing;
            growing = sizes;
            solutions.clear();
            return before;
        }

        int setMisere(boolean now) {
            int before = misere ? 1 : 0;
            misere = now;
            solutions.clear();
            return before;
        }

        int type(int letter) {
            if (letter < 0 || letter > 127) {
                return -2;
            }
            if (text.length() == 40) {
                return -4;
            }
            text += (char) letter;
            return text.length();
        }

        int erase() {
            int before = text.length();
            text = "";
            return before;
        }

        /** The first byte that cannot stand, the length if the text ends too early, a great number if all is well. */
        private static int faultOfForm(Pattern form, String text) {
            for (int end = 1; end <= text.length(); end++) {
                Matcher matcher = form.matcher(text.substring(0, end));
                if (!matcher.matches() && !matcher.hitEnd()) {
                    return end - 1;
                }
            }
            return form.matcher(text).matches() ? Integer.MAX_VALUE : text.length();
        }

        int readRules() {
            int fault = faultOfForm(Pattern.compile(" *([a-z]+|\\.[0-7]{1,10}) *"), text);
            Matcher name = Pattern.compile("^ *([a-z]+)").matcher(text);
            Map<String, String> names =
                    Map.of("nim", "3333333333", "kayles", "77", "dawson", "137", "guiles", "15");
            String meaning = text.trim();
            if (name.find()) {
                meaning = "." + names.get(name.group(1));
                if (!names.containsKey(name.group(1))) {
                    fault = Math.min(fault, name.start(1));
                }
            }
            if (fault != Integer.MAX_VALUE) {
                return -2000 - fault;
            }
            int some = 0;
            for (int k = 1; k <= 10; k++) {
                digits[k] = k < meaning.length() ? meaning.charAt(k) - '0' : 0;
                some += digits[k] > 0 ? 1 : 0;
            }
            solutions.clear();
            text = "";
            return some;
        }

        int rule(int what) {
            if (what < 1 || what > 13) {
                return -2;
            }
            return what <= 10 ? digits[what] : what == 11 ? obliging : what == 12 ? growing : misere ? 1 : 0;
        }

        private void become(Position position) {
            history.add(here);
            if (history.size() > 30) {
                history.remove(0);
            }
            here = position;
        }

        int place(int size) {
            if (size < 1) {
                return -2;
            }
            if ((long) here.counters() + size > 10) {
                return -4;
            }
            List<Heap> heaps = new ArrayList<>(here.heaps);
            heaps.add(new Heap(size, false));
            become(Position.of(heaps, here.pass));
            return heaps.size();
        }

        int lift(int heap) {
            if (heap < 0 || heap >= here.heaps.size()) {
                return -2;
            }
            List<Heap> heaps = new ArrayList<>(here.heaps);
            int size = heaps.remove(heap).size();
            become(Position.of(heaps, here.pass));
            return size;
        }

        int setPass(boolean there) {
            int before = here.pass ? 1 : 0;
            become(Position.of(here.heaps, there));
            return before;
        }

        int readPosition() {
            String heap = "[0-9]{1,2} *(! *)?";
            int fault = faultOfForm(Pattern.compile(" *(" + heap + "(\\+ *" + heap + ")*)?(p *)?"), text);
            String sound = text.substring(0, Math.min(fault, text.length()));
            Matcher heapsInIt = Pattern.compile("([0-9]{1,2}) *(!)?").matcher(sound);
            List<Heap> heaps = new ArrayList<>();
            int sum = 0;
            while (heapsInIt.find()) {
                int size = Integer.parseInt(heapsInIt.group(1));
                sum += size;
                if (size == 0 || sum > 10) {
                    fault = heapsInIt.start(1);
                    break;
                }
                heaps.add(new Heap(size, heapsInIt.group(2) != null));
            }
            if (fault != Integer.MAX_VALUE) {
                return -2000 - fault;
            }
            become(Position.of(heaps, text.contains("p")));
            text = "";
            return heaps.size();
        }

        int heap(int heap, int what) {
            if (heap < 0 || heap >= here.heaps.size() || what < 0 || what > 2) {
                return -2;
            }
            Heap it = here.heaps.get(heap);
            return what == 0 ? it.size : what == 1 ? (it.bound ? 1 : 0) : grundy(it.size);
        }

        int undo() {
            if (history.isEmpty()) {
                return -3;
            }
            here = history.remove(history.size() - 1);
            return history.size();
        }

        private List<Move> movesOf(Position position) {
            List<Move> takings = new ArrayList<>();
            List<Move> growings = new ArrayList<>();
            Set<Integer> done = new HashSet<>();
            for (int i = 0; i < position.heaps.size(); i++) {
                Heap heap = position.heaps.get(i);
                if (position.anyBound() && !heap.bound || !done.add(heap.size)) {
                    continue;
                }
                List<Heap> others = new ArrayList<>();
                for (int j = 0; j < position.heaps.size(); j++) {
                    if (j != i) {
                        others.add(new Heap(position.heaps.get(j).size, false));
                    }
                }
                for (int k = 1; k <= 10; k++) {
                    boolean bound = (obliging & 1 << k) != 0;
                    if (heap.size == k && digits[k] % 2 == 1) {
                        takings.add(new Move(0, k, k, 0, 0, Position.of(others, position.pass)));
                    }
                    if (heap.size > k && digits[k] / 2 % 2 == 1) {
                        List<Heap> heaps = new ArrayList<>(others);
                        heaps.add(new Heap(heap.size - k, bound));
                        takings.add(new Move(0, heap.size, k, 0, heap.size - k, Position.of(heaps, position.pass)));
                    }
                    for (int a = 1; digits[k] >= 4 && a <= heap.size - k - a; a++) {
                        int b = heap.size - k - a;
                        List<Heap> heaps = new ArrayList<>(others);
                        heaps.add(new Heap(a, bound));
                        heaps.add(new Heap(b, bound));
                        takings.add(new Move(0, heap.size, k, a, b, Position.of(heaps, position.pass)));
                    }
                }
                if ((growing & 1 << heap.size) != 0 && position.counters() <= 9) {
                    others.add(new Heap(heap.size + 1, false));
                    growings.add(new Move(1, heap.size, 0, 0, heap.size + 1, Position.of(others, position.pass)));
                }
            }
            takings.addAll(growings);
            if (!position.anyBound() && !position.heaps.isEmpty() && position.pass) {
                takings.add(new Move(2, 0, 0, 0, 0, Position.of(position.heaps, false)));
            }
            return takings;
        }

        private Map<Position, List<Move>> reachable(Position from) {
            Map<Position, List<Move>> all = new LinkedHashMap<>();
            ArrayDeque<Position> open = new ArrayDeque<>(List.of(from));
            all.put(from, movesOf(from));
            while (!open.isEmpty()) {
                for (Move move : all.get(open.remove())) {
                    if (!all.containsKey(move.target)) {
                        all.put(move.target, movesOf(move.target));
                        open.add(move.target);
                    }
                }
            }
            return all;
        }

        private Solved solved(Position position) {
            if (!solutions.containsKey(position)) {
                solve(reachable(position));
            }
            return solutions.get(position);
        }

        /** Round d finds the positions of distance d: those that are won or lost with the rounds before it alone. */
        private void solve(Map<Position, List<Move>> all) {
            Map<Position, Solved> found = new HashMap<>();
            int idle = 0;
            for (int round = 0; idle < 2; round++) {
                Map<Position, Solved> now = new HashMap<>();
                for (Map.Entry<Position, List<Move>> one : all.entrySet()) {
                    if (!found.containsKey(one.getKey())) {
                        int outcome = outcomeInRound(one.getValue(), found);
                        if (outcome != 2) {
                            now.put(one.getKey(), new Solved(outcome, round));
                        }
                    }
                }
                idle = now.isEmpty() ? idle + 1 : 0;
                found.putAll(now);
            }
            for (Position position : all.keySet()) {
                solutions.put(position, found.getOrDefault(position, new Solved(2, -1)));
            }
        }

        private int outcomeInRound(List<Move> moves, Map<Position, Solved> found) {
            if (moves.isEmpty()) {
                return misere ? 1 : 0;
            }
            boolean allLead = true;
            for (Move move : moves) {
                Solved target = found.get(move.target);
                if (target != null && target.outcome == 0) {
                    return 1;
                }
                allLead &= target != null;
            }
            return allLead ? 0 : 2;
        }

        int move(int move, int what) {
            List<Move> moves = movesOf(here);
            if (move < 0 || move >= moves.size() || what < 0 || what > 6) {
                return -2;
            }
            Move it = moves.get(move);
            return switch (what) {
                case 0 -> it.kind;
                case 1 -> it.size;
                case 2 -> it.k;
                case 3 -> it.smaller;
                case 4 -> it.greater;
                case 5 -> solved(it.target).outcome;
                default -> solved(it.target).distance;
            };
        }

        int play(int move) {
            List<Move> moves = movesOf(here);
            if (move < 0 || move >= moves.size()) {
                return -2;
            }
            become(moves.get(move).target);
            return here.counters();
        }

        int outcome() {
            return solved(here).outcome;
        }

        int distance() {
            return solved(here).distance;
        }

        private List<Integer> goodMoves() {
            List<Move> moves = movesOf(here);
            for (int wanted : new int[] {0, 2, 1}) {
                List<Integer> good = new ArrayList<>();
                for (int i = 0; i < moves.size(); i++) {
                    if (solved(moves.get(i).target).outcome == wanted) {
                        good.add(i);
                    }
                }
                if (!good.isEmpty()) {
                    return good;
                }
            }
            return List.of();
        }

        int best() {
            List<Move> moves = movesOf(here);
            int best = -1;
            for (int i : goodMoves()) {
                if (best == -1) {
                    best = i;
                    continue;
                }
                Solved old = solved(moves.get(best).target);
                Solved other = solved(moves.get(i).target);
                if (old.outcome == 0 && other.distance < old.distance
                        || old.outcome == 1 && other.distance > old.distance) {
                    best = i;
                }
            }
            return best;
        }

        int good() {
            return goodMoves().size();
        }

        int playOut(int most) {
            if (most < 1 || most > 40) {
                return -2;
            }
            int made = 0;
            while (made < most && best() != -1) {
                play(best());
                made++;
            }
            return made;
        }

        int outcomeWith(boolean there) {
            return solved(Position.of(here.heaps, there)).outcome;
        }

        private static void partitions(int left, int least, List<Heap> heaps, Set<List<Heap>> all) {
            if (left == 0) {
                all.add(List.copyOf(heaps));
            }
            for (int size = least; size <= left; size++) {
                heaps.add(new Heap(size, false));
                partitions(left - size, size, heaps, all);
                heaps.remove(heaps.size() - 1);
            }
        }

        int census(int counters, boolean there, int outcome) {
            if (counters < 0 || counters > 10 || outcome < 0 || outcome > 2) {
                return -2;
            }
            Set<List<Heap>> all = new LinkedHashSet<>();
            partitions(counters, 1, new ArrayList<>(), all);
            int found = 0;
            for (List<Heap> heaps : all) {
                found += solved(Position.of(heaps, there)).outcome == outcome ? 1 : 0;
            }
            return found;
        }

        private int[] grundyValues() {
            List<Integer> key = new ArrayList<>();
            for (int digit : digits) {
                key.add(digit);
            }
            return knownValues.computeIfAbsent(key, unused -> newGrundyValues());
        }

        private int[] newGrundyValues() {
            int[] values = new int[61];
            for (int n = 1; n <= 60; n++) {
                Set<Integer> reached = new HashSet<>();
                for (int k = 1; k <= 10; k++) {
                    if (n == k && digits[k] % 2 == 1) {
                        reached.add(0);
                    }
                    if (n > k && digits[k] / 2 % 2 == 1) {
                        reached.add(values[n - k]);
                    }
                    for (int a = 1; digits[k] >= 4 && a < n - k; a++) {
                        reached.add(values[a] ^ values[n - k - a]);
                    }
                }
                while (reached.contains(values[n])) {
                    values[n]++;
                }
            }
            return values;
        }

        int grundy(int size) {
            return size < 0 || size > 60 ? -2 : grundyValues()[size];
        }

        int nimSum() {
            int sum = 0;
            for (Heap heap : here.heaps) {
                sum ^= grundy(heap.size);
            }
            return sum;
        }

        int period(int what) {
            if (what != 0 && what != 1) {
                return -2;
            }
            int[] values = grundyValues();
            for (int p = 1; p <= 20; p++) {
                for (int s = 0; s <= 20; s++) {
                    boolean equal = true;
                    for (int n = s; n <= 60 - p; n++) {
                        equal &= values[n] == values[n + p];
                    }
                    if (equal) {
                        return what == 0 ? p : s;
                    }
                }
            }
            return -1;
        }

        int count(int what) {
            return switch (what) {
                case 0 -> here.heaps.size();
                case 1 -> here.counters();
                case 2 -> here.pass ? 1 : 0;
                case 3 -> (int) here.heaps.stream().filter(Heap::bound).count();
                case 4 -> movesOf(here).size();
                case 5 -> history.size();
                case 6 -> text.length();
                case 7 -> reachable(here).size();
                default -> -2;
            };
        }

        long digest() {
            List<Integer> numbers = new ArrayList<>();
            for (int what = 1; what <= 13; what++) {
                numbers.add(rule(what));
            }
            for (int what = 0; what <= 7; what++) {
                numbers.add(count(what));
            }
            for (int i = 0; i < here.heaps.size(); i++) {
                numbers.addAll(List.of(heap(i, 0), heap(i, 1), heap(i, 2)));
            }
            for (int i = 0; i < count(4); i++) {
                for (int what = 0; what <= 6; what++) {
                    numbers.add(move(i, what));
                }
            }
            numbers.addAll(List.of(outcome(), distance(), best(), good(), period(0), period(1)));
            for (int size = 0; size <= 60; size++) {
                numbers.add(grundy(size));
            }
            text.chars().forEach(numbers::add);
            long hash = 475;
            for (int number : numbers) {
                hash = hash * 31 + number;
            }
            return hash;
        }
    }
}
