import java.util.Arrays;

/**
 * A solver for games with heaps of counters. The document of the project says what each public method promises.
 *
 * <p>The ordered heaps of a position are a layout, and there are so few layouts that each has a number; a position is
 * the number 2 * layout + 1 if the pass is there, and 2 * layout otherwise. All rows are made with the object.
 */
public final class HeapGames {
    public static final int NONE = -1, BAD = -2, STATE = -3, FULL = -4;

    private static final int MOST_COUNTERS = 10;
    private static final int MOST_DIGIT = 7;
    private static final int OBLIGING_NUMBERS = 2046;
    private static final int GROWING_SIZES = 1022;
    private static final int MOST_LETTERS = 40;
    private static final int MOST_HISTORY = 30;
    private static final int MOST_PLAYED = 40;
    private static final int GREATEST_HEAP = 60;
    private static final int FIRST_FAULT = -2000;
    private static final int DRAW = 2;

    /** A heap of any size, free or bound. */
    private static final int KINDS_OF_HEAPS = 2 * MOST_COUNTERS;
    /** As many multisets of such heaps have at most ten counters together. */
    private static final int LAYOUTS = 1215;
    private static final int POSITIONS = 2 * LAYOUTS;
    /** A free heap of ten with the pass has 31 moves when all are allowed; no position has more. */
    private static final int MOST_MOVES = 31;
    /** All positions together have as many moves when all are allowed. */
    private static final int MOST_STEPS = 15010;

    private final Rules rules;
    private final Layouts layouts;
    private final Moves moves;
    private final Solver solver;
    private final GrundyValues values;
    private final Text text;
    private final RulesReader rulesReader;
    private final PositionReader positionReader;
    private final History history;
    private int here;

    public HeapGames() {
        Rules newRules = new Rules();
        Layouts newLayouts = new Layouts();
        Moves newMoves = new Moves(newRules, newLayouts);
        rules = newRules;
        layouts = newLayouts;
        moves = newMoves;
        solver = new Solver(newRules, newMoves);
        values = new GrundyValues(newRules);
        text = new Text();
        rulesReader = new RulesReader();
        positionReader = new PositionReader(newLayouts);
        history = new History();
        here = 0;
    }

    // ---- rules

    public int setDigit(int k, int digit) {
        if (k < 1 || k > MOST_COUNTERS || digit < 0 || digit > MOST_DIGIT) {
            return BAD;
        }
        int before = rules.digitOf(k);
        rules.changeDigit(k, digit);
        forgetAnswers();
        return before;
    }

    public int setObliging(int numbers) {
        if ((numbers & ~OBLIGING_NUMBERS) != 0) {
            return BAD;
        }
        int before = rules.obliging;
        rules.obliging = numbers;
        forgetAnswers();
        return before;
    }

    public int setGrowing(int sizes) {
        if ((sizes & ~GROWING_SIZES) != 0) {
            return BAD;
        }
        int before = rules.growing;
        rules.growing = sizes;
        forgetAnswers();
        return before;
    }

    public int setMisere(boolean misere) {
        int before = rules.misere;
        rules.misere = misere ? 1 : 0;
        forgetAnswers();
        return before;
    }

    public int type(int letter) {
        if (letter < 0 || letter > 127) {
            return BAD;
        }
        if (text.length >= MOST_LETTERS) {
            return FULL;
        }
        text.append(letter);
        return text.length;
    }

    public int erase() {
        int before = text.length;
        text.clear();
        return before;
    }

    public int readRules() {
        int fault = rulesReader.faultOf(text);
        if (fault != NONE) {
            return FIRST_FAULT - fault;
        }
        int notZero = 0;
        for (int k = 1; k <= MOST_COUNTERS; k++) {
            int digit = rulesReader.digitOf(k);
            rules.changeDigit(k, digit);
            notZero += digit != 0 ? 1 : 0;
        }
        text.clear();
        forgetAnswers();
        return notZero;
    }

    public int rule(int what) {
        switch (what) {
            case 11:
                return rules.obliging;
            case 12:
                return rules.growing;
            case 13:
                return rules.misere;
            default:
                return what >= 1 && what <= MOST_COUNTERS ? rules.digitOf(what) : BAD;
        }
    }

    private void forgetAnswers() {
        moves.forget();
        solver.forget();
        values.forget();
    }

    // ---- the position

    public int place(int size) {
        if (size < 1) {
            return BAD;
        }
        int layout = layoutOf(here);
        if (size > MOST_COUNTERS - layouts.countersOf(layout)) {
            return FULL;
        }
        int joined = layouts.join(layout, kindOfHeap(size, 0));
        goTo(positionOf(joined, passOf(here)));
        return layouts.heapsOf(joined);
    }

    public int lift(int heap) {
        int layout = layoutOf(here);
        if (heap < 0 || heap >= layouts.heapsOf(layout)) {
            return BAD;
        }
        int size = sizeOfKind(layouts.kindAt(layout, heap));
        goTo(positionOf(layouts.without(layout, heap), passOf(here)));
        return size;
    }

    public int setPass(boolean there) {
        int before = passOf(here);
        goTo(positionOf(layoutOf(here), there ? 1 : 0));
        return before;
    }

    public int readPosition() {
        int fault = positionReader.faultOf(text);
        if (fault != NONE) {
            return FIRST_FAULT - fault;
        }
        goTo(positionReader.position());
        text.clear();
        return layouts.heapsOf(layoutOf(here));
    }

    public int heap(int heap, int what) {
        if (heap < 0 || heap >= layouts.heapsOf(layoutOf(here)) || what < 0 || what > 2) {
            return BAD;
        }
        return propertyOfHeap(heap, what);
    }

    public int undo() {
        if (history.kept == 0) {
            return STATE;
        }
        here = history.takeLatest();
        return history.kept;
    }

    private void goTo(int position) {
        history.record(here);
        here = position;
    }

    private int propertyOfHeap(int heap, int what) {
        int kind = layouts.kindAt(layoutOf(here), heap);
        switch (what) {
            case 0:
                return sizeOfKind(kind);
            case 1:
                return boundOfKind(kind);
            default:
                return values.valueOf(sizeOfKind(kind));
        }
    }

    // ---- moves

    public int move(int move, int what) {
        moves.list(here);
        if (move < 0 || move >= moves.listed || what < 0 || what > 6) {
            return BAD;
        }
        if (what >= 5) {
            learnHere();
        }
        return propertyOfMove(move, what);
    }

    public int play(int move) {
        moves.list(here);
        if (move < 0 || move >= moves.listed) {
            return BAD;
        }
        goTo(moves.targetOf(move));
        return layouts.countersOf(layoutOf(here));
    }

    /** The properties 5 and 6 are known only after learnHere(). */
    private int propertyOfMove(int move, int what) {
        switch (what) {
            case 0:
                return moves.kinds.get(move);
            case 1:
                return moves.sizes.get(move);
            case 2:
                return moves.takings.get(move);
            case 3:
                return moves.smallerParts.get(move);
            case 4:
                return moves.greaterParts.get(move);
            case 5:
                return solver.outcomeOf(moves.targetOf(move));
            default:
                return solver.distanceOf(moves.targetOf(move));
        }
    }

    // ---- solving

    public int outcome() {
        learn(here);
        return solver.outcomeOf(here);
    }

    public int distance() {
        learn(here);
        return solver.distanceOf(here);
    }

    public int best() {
        learnHere();
        return bestMove();
    }

    public int good() {
        learnHere();
        return goodMoves();
    }

    public int playOut(int most) {
        if (most < 1 || most > MOST_PLAYED) {
            return BAD;
        }
        for (int made = 0; made < most; made++) {
            learnHere();
            int chosen = bestMove();
            if (chosen == NONE) {
                return made;
            }
            goTo(moves.targetOf(chosen));
        }
        return most;
    }

    public int outcomeWith(boolean there) {
        int other = positionOf(layoutOf(here), there ? 1 : 0);
        learn(other);
        return solver.outcomeOf(other);
    }

    public int census(int counters, boolean there, int outcome) {
        if (counters < 0 || counters > MOST_COUNTERS || outcome < 0 || outcome > DRAW) {
            return BAD;
        }
        int pass = there ? 1 : 0;
        for (int layout = 0; layout < LAYOUTS; layout++) {
            if (layouts.isFreeWith(layout, counters)) {
                solver.explore(positionOf(layout, pass));
            }
        }
        solver.solve();
        int found = 0;
        for (int layout = 0; layout < LAYOUTS; layout++) {
            if (layouts.isFreeWith(layout, counters) && solver.outcomeOf(positionOf(layout, pass)) == outcome) {
                found++;
            }
        }
        return found;
    }

    private void learn(int position) {
        solver.explore(position);
        solver.solve();
    }

    /** The solver lists the moves of other positions, so those of this one are listed after it. */
    private void learnHere() {
        solver.explore(here);
        solver.solve();
        moves.list(here);
    }

    /** The outcome to which the good moves lead, NONE if there is no move. */
    private int goodOutcome() {
        int goodOne = NONE;
        for (int move = 0; move < moves.listed; move++) {
            int reached = solver.outcomeOf(moves.targetOf(move));
            if (reached == 0) {
                return 0;
            }
            if (goodOne != DRAW) {
                goodOne = reached;
            }
        }
        return goodOne;
    }

    private int goodMoves() {
        int wanted = goodOutcome();
        int found = 0;
        for (int move = 0; move < moves.listed; move++) {
            if (solver.outcomeOf(moves.targetOf(move)) == wanted) {
                found++;
            }
        }
        return found;
    }

    private int bestMove() {
        int wanted = goodOutcome();
        int chosen = NONE;
        int chosenDistance = NONE;
        for (int move = 0; move < moves.listed; move++) {
            int target = moves.targetOf(move);
            if (solver.outcomeOf(target) != wanted) {
                continue;
            }
            int reached = solver.distanceOf(target);
            boolean better = wanted == 0 ? reached < chosenDistance : reached > chosenDistance;
            if (chosen == NONE || better) {
                chosen = move;
                chosenDistance = reached;
            }
        }
        return chosen;
    }

    // ---- Grundy values

    public int grundy(int size) {
        if (size < 0 || size > GREATEST_HEAP) {
            return BAD;
        }
        return values.valueOf(size);
    }

    public int nimSum() {
        int layout = layoutOf(here);
        int sum = 0;
        for (int heap = 0; heap < layouts.heapsOf(layout); heap++) {
            sum ^= propertyOfHeap(heap, 2);
        }
        return sum;
    }

    public int period(int what) {
        if (what < 0 || what > 1) {
            return BAD;
        }
        return what == 0 ? values.periodLength() : values.periodStart();
    }

    // ---- numbers of all kinds

    public int count(int what) {
        if (what < 0 || what > 7) {
            return BAD;
        }
        if (what == 4) {
            moves.list(here);
        } else if (what == 7) {
            solver.explore(here);
        }
        return numberOf(what);
    }

    public long digest() {
        learnHere();
        long hash = 475;
        for (int what = 1; what <= 13; what++) {
            hash = mix(hash, rule(what));
        }
        for (int what = 0; what <= 7; what++) {
            hash = mix(hash, numberOf(what));
        }
        hash = mixHeapsAndMoves(hash);
        hash = mix(hash, solver.outcomeOf(here));
        hash = mix(hash, solver.distanceOf(here));
        hash = mix(hash, bestMove());
        hash = mix(hash, goodMoves());
        hash = mix(hash, values.periodLength());
        hash = mix(hash, values.periodStart());
        for (int size = 0; size <= GREATEST_HEAP; size++) {
            hash = mix(hash, values.valueOf(size));
        }
        for (int index = 0; index < text.length; index++) {
            hash = mix(hash, text.letterAt(index));
        }
        return hash;
    }

    /** The numbers 4 and 7 are right only after moves.list(here) and solver.explore(here). */
    private int numberOf(int what) {
        switch (what) {
            case 0:
                return layouts.heapsOf(layoutOf(here));
            case 1:
                return layouts.countersOf(layoutOf(here));
            case 2:
                return passOf(here);
            case 3:
                return layouts.boundHeapsOf(layoutOf(here));
            case 4:
                return moves.listed;
            case 5:
                return history.kept;
            case 6:
                return text.length;
            default:
                return solver.reachableFrom(here);
        }
    }

    private long mixHeapsAndMoves(long before) {
        long hash = before;
        for (int heap = 0; heap < layouts.heapsOf(layoutOf(here)); heap++) {
            for (int what = 0; what <= 2; what++) {
                hash = mix(hash, propertyOfHeap(heap, what));
            }
        }
        for (int move = 0; move < moves.listed; move++) {
            for (int what = 0; what <= 6; what++) {
                hash = mix(hash, propertyOfMove(move, what));
            }
        }
        return hash;
    }

    private static long mix(long hash, int number) {
        return 31 * hash + number;
    }

    // ---- what the numbers of positions and of kinds of heaps mean

    private static int positionOf(int layout, int pass) {
        return 2 * layout + pass;
    }

    private static int layoutOf(int position) {
        return position >> 1;
    }

    private static int passOf(int position) {
        return position & 1;
    }

    /** The kinds ascend as the document orders heaps: by size, and free before bound. */
    private static int kindOfHeap(int size, int bound) {
        return 2 * (size - 1) + bound;
    }

    private static int sizeOfKind(int kind) {
        return (kind >> 1) + 1;
    }

    private static int boundOfKind(int kind) {
        return kind & 1;
    }

    /** A row of numbers that looks at each index before it is used, so that no access can throw. */
    private static final class Row {
        private final int[] cells;

        Row(int length) {
            cells = new int[Math.max(0, length)];
        }

        int get(int index) {
            return index >= 0 && index < cells.length ? cells[index] : 0;
        }

        void set(int index, int value) {
            if (index >= 0 && index < cells.length) {
                cells[index] = value;
            }
        }

        void add(int index, int value) {
            if (index >= 0 && index < cells.length) {
                cells[index] += value;
            }
        }

        void clear() {
            Arrays.fill(cells, 0);
        }
    }

    private static final class Rules {
        private final Row digits = new Row(MOST_COUNTERS + 1);
        private int obliging;
        private int growing;
        private int misere;

        int digitOf(int k) {
            return digits.get(k);
        }

        void changeDigit(int k, int digit) {
            digits.set(k, digit);
        }

        int obliges(int k) {
            return obliging >> k & 1;
        }

        boolean growsAt(int size) {
            return (growing >> size & 1) != 0;
        }

        /** Whether k counters may be taken from a heap so that this smaller part is left of it, 0 for no split. */
        boolean allows(int k, int size, int smaller) {
            int digit = digits.get(k);
            if (smaller > 0) {
                return (digit & 4) != 0;
            }
            return k == size ? (digit & 1) != 0 : (digit & 2) != 0;
        }
    }

    /** All layouts, each as a smaller layout (its stem) with one last heap; layout 0 has no heaps. */
    private static final class Layouts {
        private final Row stems = new Row(LAYOUTS);
        private final Row lastKinds = new Row(LAYOUTS);
        private final Row heaps = new Row(LAYOUTS);
        private final Row counters = new Row(LAYOUTS);
        private final Row boundHeaps = new Row(LAYOUTS);
        private final Row freed = new Row(LAYOUTS);
        private final Row joined = new Row(LAYOUTS * KINDS_OF_HEAPS);
        private int made = 1;

        Layouts() {
            for (int layout = 0; layout < made && layout < LAYOUTS; layout++) {
                makeGreaterOnes(layout);
            }
            // A stem has a lower number than its layout, so what is needed of it stands already.
            for (int layout = 1; layout < LAYOUTS; layout++) {
                joinLesserKinds(layout);
            }
            for (int layout = 1; layout < LAYOUTS; layout++) {
                int freeKind = kindOfHeap(sizeOfKind(lastKinds.get(layout)), 0);
                freed.set(layout, join(freed.get(stems.get(layout)), freeKind));
            }
        }

        /** Only kinds from the last one on are put behind a layout, so that each layout is made once. */
        private void makeGreaterOnes(int stem) {
            int room = MOST_COUNTERS - counters.get(stem);
            for (int kind = lastKinds.get(stem); kind < KINDS_OF_HEAPS && sizeOfKind(kind) <= room; kind++) {
                stems.set(made, stem);
                lastKinds.set(made, kind);
                heaps.set(made, heaps.get(stem) + 1);
                counters.set(made, counters.get(stem) + sizeOfKind(kind));
                boundHeaps.set(made, boundHeaps.get(stem) + boundOfKind(kind));
                joined.set(stem * KINDS_OF_HEAPS + kind, made);
                made++;
            }
        }

        private void joinLesserKinds(int layout) {
            int room = MOST_COUNTERS - counters.get(layout);
            int last = lastKinds.get(layout);
            for (int kind = 0; kind < last && sizeOfKind(kind) <= room; kind++) {
                joined.set(layout * KINDS_OF_HEAPS + kind, join(join(stems.get(layout), kind), last));
            }
        }

        int heapsOf(int layout) {
            return heaps.get(layout);
        }

        int countersOf(int layout) {
            return counters.get(layout);
        }

        int boundHeapsOf(int layout) {
            return boundHeaps.get(layout);
        }

        boolean isFreeWith(int layout, int wanted) {
            return boundHeaps.get(layout) == 0 && counters.get(layout) == wanted;
        }

        /** The same heaps, all of them free. */
        int freedOf(int layout) {
            return freed.get(layout);
        }

        int join(int layout, int kind) {
            return joined.get(layout * KINDS_OF_HEAPS + kind);
        }

        int kindAt(int layout, int heap) {
            int at = layout;
            for (int more = heaps.get(layout) - 1 - heap; more > 0; more--) {
                at = stems.get(at);
            }
            return lastKinds.get(at);
        }

        int without(int layout, int heap) {
            int left = 0;
            for (int other = 0; other < heaps.get(layout); other++) {
                if (other != heap) {
                    left = join(left, kindAt(layout, other));
                }
            }
            return left;
        }
    }

    /** The moves of one position, in the order of their numbers. */
    private static final class Moves {
        private static final int TAKING = 0;
        private static final int GROWING = 1;
        private static final int PASSING = 2;

        private final Rules rules;
        private final Layouts layouts;
        private final Row kinds = new Row(MOST_MOVES);
        private final Row sizes = new Row(MOST_MOVES);
        private final Row takings = new Row(MOST_MOVES);
        private final Row smallerParts = new Row(MOST_MOVES);
        private final Row greaterParts = new Row(MOST_MOVES);
        private final Row targets = new Row(MOST_MOVES);
        private final Row openSizes = new Row(MOST_COUNTERS);
        private final Row openRests = new Row(MOST_COUNTERS);
        private int open;
        private int listed;
        private int listedFor = NONE;

        Moves(Rules rules, Layouts layouts) {
            this.rules = rules;
            this.layouts = layouts;
        }

        void forget() {
            listedFor = NONE;
        }

        int targetOf(int move) {
            return targets.get(move);
        }

        void list(int position) {
            if (position == listedFor) {
                return;
            }
            listedFor = position;
            listed = 0;
            int layout = layoutOf(position);
            int pass = passOf(position);
            findOpenHeaps(layout);
            for (int i = 0; i < open; i++) {
                addTakings(openSizes.get(i), openRests.get(i), pass);
            }
            if (layouts.countersOf(layout) < MOST_COUNTERS) {
                addGrowings(pass);
            }
            if (pass == 1 && layouts.boundHeapsOf(layout) == 0 && layouts.heapsOf(layout) > 0) {
                add(PASSING, 0, 0, 0, 0, positionOf(layout, 0));
            }
        }

        /** Finds the heaps that count for moves, and for each of them what the other heaps become after a move. */
        private void findOpenHeaps(int layout) {
            open = 0;
            int bound = layouts.boundHeapsOf(layout) > 0 ? 1 : 0;
            int sizeBefore = 0;
            for (int heap = 0; heap < layouts.heapsOf(layout); heap++) {
                int kind = layouts.kindAt(layout, heap);
                int size = sizeOfKind(kind);
                if (boundOfKind(kind) == bound && size != sizeBefore) {
                    openSizes.set(open, size);
                    openRests.set(open, layouts.freedOf(layouts.without(layout, heap)));
                    open++;
                    sizeBefore = size;
                }
            }
        }

        private void addTakings(int size, int rest, int pass) {
            for (int k = 1; k <= size; k++) {
                int left = size - k;
                for (int smaller = 0; smaller <= left / 2; smaller++) {
                    if (rules.allows(k, size, smaller)) {
                        int greater = left - smaller;
                        int layout = restWith(rest, smaller, greater, rules.obliges(k));
                        add(TAKING, size, k, smaller, greater, positionOf(layout, pass));
                    }
                }
            }
        }

        private void addGrowings(int pass) {
            for (int i = 0; i < open; i++) {
                int size = openSizes.get(i);
                if (rules.growsAt(size)) {
                    int layout = restWith(openRests.get(i), 0, size + 1, 0);
                    add(GROWING, size, 0, 0, size + 1, positionOf(layout, pass));
                }
            }
        }

        private int restWith(int rest, int smaller, int greater, int bound) {
            int layout = rest;
            if (smaller > 0) {
                layout = layouts.join(layout, kindOfHeap(smaller, bound));
            }
            if (greater > 0) {
                layout = layouts.join(layout, kindOfHeap(greater, bound));
            }
            return layout;
        }

        private void add(int kind, int size, int taking, int smaller, int greater, int target) {
            kinds.set(listed, kind);
            sizes.set(listed, size);
            takings.set(listed, taking);
            smallerParts.set(listed, smaller);
            greaterParts.set(listed, greater);
            targets.set(listed, target);
            listed++;
        }
    }

    /**
     * Knows a set of positions that no move leaves, and solves it backwards from the ends of the game. Known positions
     * are numbered from 0 in the order in which they were found; a step is a move between two of them.
     */
    private static final class Solver {
        private final Rules rules;
        private final Moves moves;
        /** For each position its number plus 1, 0 for those that are not known. */
        private final Row numbers = new Row(POSITIONS);
        private final Row known = new Row(POSITIONS);
        private final Row firstSteps = new Row(POSITIONS + 1);
        private final Row steps = new Row(MOST_STEPS);
        private final Row firstBackSteps = new Row(POSITIONS + 1);
        private final Row backSteps = new Row(MOST_STEPS);
        private final Row outcomes = new Row(POSITIONS);
        private final Row distances = new Row(POSITIONS);
        /** For each position how many of its steps are not yet known to lead to the outcome 1. */
        private final Row hopes = new Row(POSITIONS);
        private final Row queue = new Row(POSITIONS);
        private final Row seen = new Row(POSITIONS);
        private int found;
        private int queued;
        private boolean solved;

        Solver(Rules rules, Moves moves) {
            this.rules = rules;
            this.moves = moves;
        }

        void forget() {
            numbers.clear();
            found = 0;
            solved = false;
        }

        /** Makes the position known, and with it all that can be reached from it. */
        void explore(int position) {
            int before = found;
            numberFor(position);
            for (int number = before; number < found && number < POSITIONS; number++) {
                moves.list(known.get(number));
                int step = firstSteps.get(number);
                for (int move = 0; move < moves.listed; move++) {
                    steps.set(step, numberFor(moves.targetOf(move)));
                    step++;
                }
                firstSteps.set(number + 1, step);
            }
        }

        int outcomeOf(int position) {
            return outcomes.get(numbers.get(position) - 1);
        }

        int distanceOf(int position) {
            return distances.get(numbers.get(position) - 1);
        }

        int reachableFrom(int position) {
            seen.clear();
            queued = 0;
            look(numbers.get(position) - 1);
            for (int head = 0; head < queued && head < POSITIONS; head++) {
                int number = queue.get(head);
                int end = firstSteps.get(number + 1);
                for (int step = firstSteps.get(number); step < end; step++) {
                    look(steps.get(step));
                }
            }
            return queued;
        }

        private void look(int number) {
            if (seen.get(number) == 0) {
                seen.set(number, 1);
                queue.set(queued, number);
                queued++;
            }
        }

        private int numberFor(int position) {
            int number = numbers.get(position) - 1;
            if (number >= 0) {
                return number;
            }
            solved = false;
            known.set(found, position);
            found++;
            numbers.set(position, found);
            return found - 1;
        }

        /**
         * The queue holds solved positions by ascending distances. So the first step found to an outcome 0 is the
         * shortest way to win, and the last step found to an outcome 1 is the longest way to lose.
         */
        void solve() {
            if (solved) {
                return;
            }
            turnStepsRound();
            queued = 0;
            for (int number = 0; number < found; number++) {
                startWith(number);
            }
            for (int head = 0; head < queued && head < POSITIONS; head++) {
                stepBackFrom(queue.get(head));
            }
            solved = true;
        }

        private void turnStepsRound() {
            firstBackSteps.clear();
            int all = firstSteps.get(found);
            for (int step = 0; step < all; step++) {
                firstBackSteps.add(steps.get(step), 1);
            }
            for (int number = 1; number <= found; number++) {
                firstBackSteps.add(number, firstBackSteps.get(number - 1));
            }
            // Each entry is the end of its part now, and goes down to the start as the part is filled.
            for (int number = 0; number < found; number++) {
                int end = firstSteps.get(number + 1);
                for (int step = firstSteps.get(number); step < end; step++) {
                    int target = steps.get(step);
                    firstBackSteps.add(target, -1);
                    backSteps.set(firstBackSteps.get(target), number);
                }
            }
        }

        private void startWith(int number) {
            int ways = firstSteps.get(number + 1) - firstSteps.get(number);
            hopes.set(number, ways);
            if (ways == 0) {
                settle(number, rules.misere, 0);
            } else {
                outcomes.set(number, DRAW);
                distances.set(number, NONE);
            }
        }

        private void stepBackFrom(int number) {
            int reached = outcomes.get(number);
            int farther = distances.get(number) + 1;
            int end = firstBackSteps.get(number + 1);
            for (int step = firstBackSteps.get(number); step < end; step++) {
                int origin = backSteps.get(step);
                if (outcomes.get(origin) != DRAW) {
                    continue;
                }
                if (reached == 0) {
                    settle(origin, 1, farther);
                } else {
                    hopes.add(origin, -1);
                    if (hopes.get(origin) == 0) {
                        settle(origin, 0, farther);
                    }
                }
            }
        }

        private void settle(int number, int outcome, int distance) {
            outcomes.set(number, outcome);
            distances.set(number, distance);
            queue.set(queued, number);
            queued++;
        }
    }

    /** The Grundy values of all heaps, found when one of them is first asked for after a change of the digits. */
    private static final class GrundyValues {
        private static final int GREATEST_PERIOD = 20;
        private static final int GREATEST_START = 20;
        /** A heap of sixty has fewer than 512 moves, so no value and no exclusive or of two comes up to 512. */
        private static final int VALUES = 512;

        private final Rules rules;
        private final Row values = new Row(GREATEST_HEAP + 1);
        /** For each value the last heap from which it was reached; the heaps ascend, so it needs no clearing. */
        private final Row reachedFrom = new Row(VALUES);
        private boolean ready;
        private int length;
        private int start;

        GrundyValues(Rules rules) {
            this.rules = rules;
        }

        void forget() {
            ready = false;
        }

        int valueOf(int size) {
            find();
            return values.get(size);
        }

        int periodLength() {
            find();
            return length;
        }

        int periodStart() {
            find();
            return start;
        }

        private void find() {
            if (ready) {
                return;
            }
            reachedFrom.clear();
            for (int size = 1; size <= GREATEST_HEAP; size++) {
                reachAllFrom(size);
                values.set(size, leastNotReachedFrom(size));
            }
            findPeriod();
            ready = true;
        }

        private void reachAllFrom(int size) {
            for (int k = 1; k <= MOST_COUNTERS && k <= size; k++) {
                int left = size - k;
                for (int smaller = 0; smaller <= left / 2; smaller++) {
                    if (rules.allows(k, size, smaller)) {
                        reachedFrom.set(values.get(smaller) ^ values.get(left - smaller), size);
                    }
                }
            }
        }

        private int leastNotReachedFrom(int size) {
            int value = 0;
            while (value < VALUES && reachedFrom.get(value) == size) {
                value++;
            }
            return value;
        }

        private void findPeriod() {
            length = NONE;
            start = NONE;
            for (int p = 1; p <= GREATEST_PERIOD; p++) {
                int s = startOfPeriod(p);
                if (s <= GREATEST_START) {
                    length = p;
                    start = s;
                    return;
                }
            }
        }

        private int startOfPeriod(int p) {
            int s = GREATEST_HEAP - p + 1;
            while (s > 0 && values.get(s - 1) == values.get(s - 1 + p)) {
                s--;
            }
            return s;
        }
    }

    /** The text, and the place in it up to which it has been read. */
    private static final class Text {
        private final Row letters = new Row(MOST_LETTERS);
        private int length;
        private int cursor;

        void append(int letter) {
            letters.set(length, letter);
            length++;
        }

        void clear() {
            length = 0;
        }

        /** NONE behind the end, which is no letter, digit or sign. */
        int letterAt(int index) {
            return index < length ? letters.get(index) : NONE;
        }

        void startReading() {
            cursor = 0;
            skipBlanks();
        }

        int next() {
            return letterAt(cursor);
        }

        int nextDigit() {
            int digit = next() - '0';
            return digit >= 0 && digit <= 9 ? digit : NONE;
        }

        boolean isNextSmallLetter() {
            return next() >= 'a' && next() <= 'z';
        }

        /** Steps over a sign, if it is the next one, and the blanks behind it. */
        boolean takeSign(int sign) {
            if (next() != sign) {
                return false;
            }
            cursor++;
            skipBlanks();
            return true;
        }

        void skipBlanks() {
            while (cursor < length && letters.get(cursor) == ' ') {
                cursor++;
            }
        }

        /** The fault of a text that should have ended here, but for blanks. */
        int faultOfRest() {
            skipBlanks();
            return cursor < length ? cursor : NONE;
        }

        /** Whether just this name stands from a place up to the cursor. */
        boolean spells(int from, String name) {
            if (cursor - from != name.length()) {
                return false;
            }
            for (int i = 0; i < name.length(); i++) {
                if (letterAt(from + i) != name.charAt(i)) {
                    return false;
                }
            }
            return true;
        }
    }

    /** Reads a text as rules. */
    private static final class RulesReader {
        private final Row digits = new Row(MOST_COUNTERS + 1);

        int digitOf(int k) {
            return digits.get(k);
        }

        /** NONE if there is no fault; the digits are right only then. */
        int faultOf(Text text) {
            digits.clear();
            text.startReading();
            int fault = text.isNextSmallLetter() ? readName(text) : readOctals(text);
            return fault != NONE ? fault : text.faultOfRest();
        }

        private int readName(Text text) {
            int from = text.cursor;
            while (text.cursor < text.length && text.isNextSmallLetter()) {
                text.cursor++;
            }
            String named = digitsOfName(text, from);
            for (int i = 0; i < named.length(); i++) {
                digits.set(i + 1, named.charAt(i) - '0');
            }
            return named.isEmpty() ? from : NONE;
        }

        private static String digitsOfName(Text text, int from) {
            if (text.spells(from, "nim")) {
                return "3333333333";
            }
            if (text.spells(from, "kayles")) {
                return "77";
            }
            if (text.spells(from, "dawson")) {
                return "137";
            }
            return text.spells(from, "guiles") ? "15" : "";
        }

        private int readOctals(Text text) {
            if (text.next() != '.') {
                return text.cursor;
            }
            text.cursor++;
            int from = text.cursor;
            for (int k = 1; k <= MOST_COUNTERS; k++) {
                int digit = text.nextDigit();
                if (digit == NONE || digit > MOST_DIGIT) {
                    break;
                }
                digits.set(k, digit);
                text.cursor++;
            }
            return text.cursor == from ? from : NONE;
        }
    }

    /** Reads a text as a position. */
    private static final class PositionReader {
        private final Layouts layouts;
        private int layout;
        private int pass;

        PositionReader(Layouts layouts) {
            this.layouts = layouts;
        }

        int position() {
            return positionOf(layout, pass);
        }

        /** NONE if there is no fault; the position is right only then. */
        int faultOf(Text text) {
            layout = 0;
            text.startReading();
            int fault = text.nextDigit() != NONE ? readHeaps(text) : NONE;
            if (fault != NONE) {
                return fault;
            }
            pass = text.takeSign('p') ? 1 : 0;
            return text.faultOfRest();
        }

        private int readHeaps(Text text) {
            int fault = readHeap(text);
            for (int more = 0; more < MOST_LETTERS && fault == NONE && text.takeSign('+'); more++) {
                fault = readHeap(text);
            }
            return fault;
        }

        private int readHeap(Text text) {
            int from = text.cursor;
            int size = text.nextDigit();
            if (size == NONE) {
                return from;
            }
            text.cursor++;
            if (text.nextDigit() != NONE) {
                size = 10 * size + text.nextDigit();
                text.cursor++;
            }
            if (size == 0 || size > MOST_COUNTERS - layouts.countersOf(layout)) {
                return from;
            }
            text.skipBlanks();
            int bound = text.takeSign('!') ? 1 : 0;
            layout = layouts.join(layout, kindOfHeap(size, bound));
            return NONE;
        }
    }

    /** The latest positions, in a ring. */
    private static final class History {
        private final Row ring = new Row(MOST_HISTORY);
        private int next;
        private int kept;

        void record(int position) {
            ring.set(next, position);
            next = (next + 1) % MOST_HISTORY;
            kept = Math.min(kept + 1, MOST_HISTORY);
        }

        int takeLatest() {
            next = (next + MOST_HISTORY - 1) % MOST_HISTORY;
            kept--;
            return ring.get(next);
        }
    }
}
