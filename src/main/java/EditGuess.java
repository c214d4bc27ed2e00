/** What was done to some lines, guessed from examples, and done to others. */
public final class EditGuess {
    public static final int NONE = -6, UNKNOWN = -1, OUTSIDE = -2, STATE = -3, FULL = -4, NO = -5;

    private static final int PAD_MOST = 18;
    private static final int LINE_MOST = 12;
    private static final int RESULT_MOST = 5;
    private static final int EXAMPLES_MOST = 3;
    private static final int POOL_MOST = 6;
    private static final int IMAGES = 2;
    private static final int LEAST_CODE = 33;
    private static final int LAST_CODE = 126;
    private static final int ARROW = '>';
    private static final int KINDS = 3;
    private static final int NOT_COUNTED = -1;

    private final Signs pad = new Signs(PAD_MOST);
    private final Book book = new Book();
    private final Book[] images = new Book[IMAGES];
    private final boolean[] kept = new boolean[IMAGES];
    private final Fitting fitting = new Fitting();
    private final Plan best = new Plan();
    private final Signs made = new Signs(Plan.SIGNS_MOST);
    private final long[] agreed = new long[POOL_MOST];
    private boolean guessed;
    private long fitted;

    public EditGuess() {
        for (int n = 0; n < IMAGES; n++) {
            images[n] = new Book();
        }
        poolChanged();
    }

    // ---- 1 told

    public int say(int sign) {
        if (sign < LEAST_CODE || sign > LAST_CODE) {
            return OUTSIDE;
        }
        return pad.add(sign) ? pad.many() : FULL;
    }

    public int wipe() {
        int gone = pad.many();
        pad.clear();
        return gone;
    }

    public int fault(int as) {
        if (as == 0) {
            return exampleFault();
        }
        return as == 1 ? lineFault() : OUTSIDE;
    }

    public int example() {
        if (exampleFault() != NONE) {
            return NO;
        }
        if (book.examples() >= EXAMPLES_MOST) {
            return FULL;
        }
        int arrow = pad.signsEnd(0, LINE_MOST);
        book.addExample(pad, arrow, pad, arrow + 1);
        pad.clear();
        examplesChanged();
        return book.examples();
    }

    public int forget() {
        if (book.examples() == 0) {
            return NO;
        }
        book.dropExample();
        examplesChanged();
        return book.examples();
    }

    public int pool() {
        if (lineFault() != NONE) {
            return NO;
        }
        if (book.pooled() >= POOL_MOST) {
            return FULL;
        }
        book.addLine(pad);
        pad.clear();
        poolChanged();
        return book.pooled();
    }

    public int drain(int line) {
        if (!book.knows(line)) {
            return UNKNOWN;
        }
        book.dropLine(line);
        poolChanged();
        return book.pooled();
    }

    // ---- 2 plans

    public long plans() {
        if (book.examples() == 0) {
            return STATE;
        }
        guess();
        return fitted;
    }

    public int cost(int i) {
        if (i < -2) {
            return OUTSIDE;
        }
        if (book.examples() == 0) {
            return STATE;
        }
        guess();
        if (best.many() == 0) {
            return NONE;
        }
        if (i < 0) {
            return i == -1 ? best.price() : best.many();
        }
        return i < best.many() ? best.at(i).price() : NONE;
    }

    public int piece(int i, int what) {
        if (book.examples() == 0) {
            return STATE;
        }
        guess();
        if (i < 0 || i >= best.many()) {
            return UNKNOWN;
        }
        return what < 0 || what > 2 ? OUTSIDE : best.at(i).tells(what);
    }

    public int place(int mark) {
        if (lineFault() != NONE) {
            return NO;
        }
        int index = Marks.index(mark);
        return index < 0 ? OUTSIDE : Marks.placeIn(pad, index);
    }

    public int makes(int i) {
        if (lineFault() != NONE) {
            return NO;
        }
        if (book.examples() == 0) {
            return STATE;
        }
        guess();
        if (best.many() == 0) {
            return NONE;
        }
        best.applyTo(pad, made);
        if (i == -1) {
            return made.many();
        }
        return i >= 0 && i < made.many() ? made.at(i) : NONE;
    }

    public int accept(int line) {
        if (!book.knows(line)) {
            return UNKNOWN;
        }
        if (book.examples() == 0) {
            return STATE;
        }
        guess();
        if (!makesResult(line)) {
            return NO;
        }
        if (book.examples() >= EXAMPLES_MOST) {
            return FULL;
        }
        Signs asked = book.line(line);
        book.addExample(asked, asked.many(), made, 0);
        book.dropLine(line);
        examplesChanged();
        return book.examples();
    }

    // ---- 3 what is asked

    public long agreeing(int line) {
        if (!book.knows(line)) {
            return UNKNOWN;
        }
        if (book.examples() == 0) {
            return STATE;
        }
        guess();
        return makesResult(line) ? countAgreeing(line) : NO;
    }

    public int asked() {
        if (book.examples() == 0) {
            return STATE;
        }
        guess();
        int found = NONE;
        long fewest = 0;
        for (int line = 0; line < book.pooled(); line++) {
            if (makesResult(line)) {
                long count = countAgreeing(line);
                if (found == NONE || count < fewest) {
                    found = line;
                    fewest = count;
                }
            }
        }
        return found;
    }

    public int image(int n) {
        if (n < 0 || n >= IMAGES) {
            return OUTSIDE;
        }
        images[n].copy(book);
        kept[n] = true;
        return 1;
    }

    public int restore(int n) {
        if (n < 0 || n >= IMAGES) {
            return OUTSIDE;
        }
        if (!kept[n]) {
            return STATE;
        }
        book.copy(images[n]);
        examplesChanged();
        return 1;
    }

    public int told(int what) {
        if (what == 0) {
            return pad.many();
        }
        if (what == 1) {
            return book.examples();
        }
        if (what == 2) {
            return book.pooled();
        }
        if (what >= 10 && what < 10 + book.examples()) {
            return book.exampleLine(what - 10).many();
        }
        if (what >= 20 && what < 20 + book.examples()) {
            return book.result(what - 20).many();
        }
        if (what >= 30 && book.knows(what - 30)) {
            return book.line(what - 30).many();
        }
        return OUTSIDE;
    }

    // ---- behind the face

    private int lineFault() {
        int end = pad.signsEnd(0, LINE_MOST);
        return end == pad.many() ? NONE : end;
    }

    private int exampleFault() {
        int arrow = pad.signsEnd(0, LINE_MOST);
        if (pad.at(arrow) != ARROW) {
            return arrow;
        }
        int end = pad.signsEnd(arrow + 1, RESULT_MOST);
        return end == pad.many() && end > arrow + 1 ? NONE : end;
    }

    private void examplesChanged() {
        guessed = false;
        poolChanged();
    }

    private void poolChanged() {
        for (int line = 0; line < POOL_MOST; line++) {
            agreed[line] = NOT_COUNTED;
        }
    }

    /** Counting costs far more than telling, so it is done once for the same examples. */
    private void guess() {
        if (guessed) {
            return;
        }
        fitting.clear();
        for (int i = 0; i < book.examples(); i++) {
            fitting.addRow(book.exampleLine(i), book.result(i));
        }
        fitted = fitting.count();
        best.clear();
        if (fitted != 0) {
            fitting.weigh();
            fitting.tell(best);
        }
        guessed = true;
    }

    /** Whether what the best plan makes of a line of the pool, which is left in made, can be a result. */
    private boolean makesResult(int line) {
        best.applyTo(book.line(line), made);
        return made.many() >= 1 && made.many() <= RESULT_MOST;
    }

    /** To agree on a line is to fit one example more, so that one is counted with those that stand. */
    private long countAgreeing(int line) {
        if (line < 0 || line >= POOL_MOST) {
            return 0;
        }
        if (agreed[line] == NOT_COUNTED) {
            fitting.addRow(book.line(line), made);
            agreed[line] = fitting.count();
            fitting.dropRow();
        }
        return agreed[line];
    }

    /** Codes in a row, as many at most as it was made for, each with its class. */
    private static final class Signs {
        private final int[] codes;
        private final int[] kinds;
        private int many;

        Signs(int most) {
            int size = Math.max(most, 0);
            codes = new int[size];
            kinds = new int[size];
        }

        int many() {
            return many;
        }

        void clear() {
            many = 0;
        }

        boolean add(int code) {
            if (many >= codes.length || many >= kinds.length) {
                return false;
            }
            codes[many] = code;
            kinds[many] = kindOf(code);
            many++;
            return true;
        }

        /** The class of a sign: 0 letters, 1 figures, 2 the others; NONE: it can not stand in a line. */
        private static int kindOf(int code) {
            if (code >= 'a' && code <= 'e') {
                return 0;
            }
            if (code >= '0' && code <= '4') {
                return 1;
            }
            return code == '-' || code == '.' ? 2 : NONE;
        }

        /** 0, which is no sign's code, where there is none. */
        int at(int i) {
            return i >= 0 && i < many ? codes[i] : 0;
        }

        int kindAt(int i) {
            return i >= 0 && i < many ? kinds[i] : NONE;
        }

        void addFrom(Signs other, int from, int to) {
            for (int i = from; i < to && i < other.many; i++) {
                add(other.at(i));
            }
        }

        void copy(Signs other) {
            clear();
            addFrom(other, 0, other.many);
        }

        /** Where the signs of a line that stand from a place on end, or as many of them as may. */
        int signsEnd(int from, int most) {
            int end = from;
            while (end < many && end - from < most && kindAt(end) != NONE) {
                end++;
            }
            return end;
        }
    }

    /** The examples and the pool: what an image keeps. */
    private static final class Book {
        private final Signs[] exampleLines = new Signs[EXAMPLES_MOST];
        private final Signs[] results = new Signs[EXAMPLES_MOST];
        private final Signs[] lines = new Signs[POOL_MOST];
        private int examples;
        private int pooled;

        Book() {
            for (int i = 0; i < EXAMPLES_MOST; i++) {
                exampleLines[i] = new Signs(LINE_MOST);
                results[i] = new Signs(RESULT_MOST);
            }
            for (int i = 0; i < POOL_MOST; i++) {
                lines[i] = new Signs(LINE_MOST);
            }
        }

        int examples() {
            return examples;
        }

        int pooled() {
            return pooled;
        }

        boolean knows(int line) {
            return line >= 0 && line < pooled;
        }

        Signs exampleLine(int i) {
            return exampleLines[i >= 0 && i < EXAMPLES_MOST ? i : 0];
        }

        Signs result(int i) {
            return results[i >= 0 && i < EXAMPLES_MOST ? i : 0];
        }

        Signs line(int i) {
            return lines[i >= 0 && i < POOL_MOST ? i : 0];
        }

        /** The example's line ends at a place of the one row, what became of it starts at a place of the other. */
        void addExample(Signs line, int lineEnd, Signs result, int resultStart) {
            if (examples < EXAMPLES_MOST) {
                exampleLines[examples].clear();
                exampleLines[examples].addFrom(line, 0, lineEnd);
                results[examples].clear();
                results[examples].addFrom(result, resultStart, result.many());
                examples++;
            }
        }

        void dropExample() {
            if (examples > 0) {
                examples--;
            }
        }

        void addLine(Signs line) {
            if (pooled < POOL_MOST) {
                lines[pooled].copy(line);
                pooled++;
            }
        }

        void dropLine(int line) {
            if (knows(line)) {
                for (int i = line; i + 1 < pooled; i++) {
                    lines[i].copy(lines[i + 1]);
                }
                pooled--;
            }
        }

        void copy(Book other) {
            examples = other.examples;
            pooled = other.pooled;
            for (int i = 0; i < EXAMPLES_MOST; i++) {
                exampleLines[i].copy(other.exampleLines[i]);
                results[i].copy(other.results[i]);
            }
            for (int i = 0; i < POOL_MOST; i++) {
                lines[i].copy(other.lines[i]);
            }
        }
    }

    /** Marks have indexes from 0 on, without gaps, in the order of their codes. */
    private static final class Marks {
        static final int SIDE = LINE_MOST + 1;
        static final int TURNS = 6;
        static final int RUNS = KINDS * TURNS;
        static final int RIGHT = SIDE;
        static final int BEGIN = RIGHT + SIDE;
        static final int END = BEGIN + RUNS;
        static final int MANY = END + RUNS;

        static final int RIGHT_CODE = 20;
        static final int BEGIN_CODE = 100;
        static final int END_CODE = 200;
        static final int KIND_STEP = 20;

        private Marks() {
        }

        /** The index of the mark that has the code; NONE: there is none. */
        static int index(int code) {
            if (code >= END_CODE) {
                return runIndex(END, code - END_CODE);
            }
            if (code >= BEGIN_CODE) {
                return runIndex(BEGIN, code - BEGIN_CODE);
            }
            if (code >= RIGHT_CODE) {
                return code - RIGHT_CODE < SIDE ? RIGHT + code - RIGHT_CODE : NONE;
            }
            return code >= 0 && code < SIDE ? code : NONE;
        }

        private static int runIndex(int first, int rest) {
            int kind = rest / KIND_STEP;
            int turn = rest % KIND_STEP - 3;
            if (kind >= KINDS || turn > 3 || turn == 0) {
                return NONE;
            }
            return first + kind * TURNS + (turn < 0 ? turn + 3 : turn + 2);
        }

        static int code(int index) {
            if (index < RIGHT) {
                return index;
            }
            if (index < BEGIN) {
                return RIGHT_CODE + index - RIGHT;
            }
            int base = index < END ? BEGIN_CODE : END_CODE;
            return base + KIND_STEP * kind(index) + turn(index) + 3;
        }

        /** What a mark adds to the cost of a cut. */
        static int price(int index) {
            if (index < BEGIN) {
                return 3;
            }
            return Math.abs(turn(index)) == 1 ? 1 : 2;
        }

        /** The place of a line that a mark tells, or NONE. */
        static int placeIn(Signs line, int index) {
            if (index < RIGHT) {
                return index <= line.many() ? index : NONE;
            }
            if (index < BEGIN) {
                int back = index - RIGHT;
                return back <= line.many() ? line.many() - back : NONE;
            }
            int begin = runBegin(line, kind(index), turn(index));
            return begin == NONE || index < END ? begin : runEnd(line, begin);
        }

        private static int kind(int index) {
            return (index - BEGIN) % RUNS / TURNS;
        }

        /** From -3 on, without 0. */
        private static int turn(int index) {
            int order = (index - BEGIN) % TURNS;
            return order < 3 ? order - 3 : order - 2;
        }

        /** From the right too it is the begins of runs that are counted, as each run has just one. */
        private static int runBegin(Signs line, int kind, int turn) {
            int left = Math.abs(turn);
            for (int i = 0; i < line.many(); i++) {
                int place = turn > 0 ? i : line.many() - 1 - i;
                if (line.kindAt(place) == kind && line.kindAt(place - 1) != kind) {
                    left--;
                    if (left == 0) {
                        return place;
                    }
                }
            }
            return NONE;
        }

        private static int runEnd(Signs line, int begin) {
            int end = begin + 1;
            while (end < line.many() && line.kindAt(end) == line.kindAt(begin)) {
                end++;
            }
            return end;
        }
    }

    /** A cut between two marks, or a text. */
    private static final class Piece {
        private final Signs text = new Signs(RESULT_MOST);
        private boolean isText;
        private int first;
        private int second;

        void becomeCut(int firstMark, int secondMark) {
            isText = false;
            first = firstMark;
            second = secondMark;
        }

        void becomeText(Signs source, int from, int to) {
            isText = true;
            text.clear();
            text.addFrom(source, from, to);
        }

        int price() {
            return isText ? textPrice(text.many()) : cutPrice(Marks.price(first), Marks.price(second));
        }

        static int textPrice(int many) {
            return 2 * many + 2;
        }

        static int cutPrice(int firstPrice, int secondPrice) {
            return firstPrice + secondPrice + 1;
        }

        int tells(int what) {
            if (what == 0) {
                return isText ? 1 : 0;
            }
            if (isText) {
                return what == 1 ? text.many() : text.at(0);
            }
            return Marks.code(what == 1 ? first : second);
        }

        /** Whether it makes something of the line, which is put behind what is there. */
        boolean addTo(Signs out, Signs line) {
            if (isText) {
                out.addFrom(text, 0, text.many());
                return true;
            }
            int from = Marks.placeIn(line, first);
            int to = Marks.placeIn(line, second);
            if (from == NONE || to == NONE || from >= to) {
                return false;
            }
            out.addFrom(line, from, to);
            return true;
        }
    }

    /** Pieces, none as long as there is no plan; each makes a sign at least, so there are no more than a result has. */
    private static final class Plan {
        static final int SIGNS_MOST = RESULT_MOST * LINE_MOST;

        private final Piece[] pieces = new Piece[RESULT_MOST];
        private int many;

        Plan() {
            for (int i = 0; i < RESULT_MOST; i++) {
                pieces[i] = new Piece();
            }
        }

        int many() {
            return many;
        }

        void clear() {
            many = 0;
        }

        Piece at(int i) {
            return pieces[i >= 0 && i < RESULT_MOST ? i : 0];
        }

        /** One piece more, which the caller says what it is. */
        Piece next() {
            Piece piece = at(many);
            if (many < RESULT_MOST) {
                many++;
            }
            return piece;
        }

        int price() {
            int sum = 0;
            for (int i = 0; i < many; i++) {
                sum += at(i).price();
            }
            return sum;
        }

        /** Leaves out empty if a piece makes nothing. */
        void applyTo(Signs line, Signs out) {
            out.clear();
            for (int i = 0; i < many; i++) {
                if (!at(i).addTo(out, line)) {
                    out.clear();
                    return;
                }
            }
        }
    }

    /** A line and what a plan must make of it, with what is asked of both again and again. */
    private static final class Row {
        private final Signs result = new Signs(RESULT_MOST);
        private final int[] places = new int[Marks.MANY];
        private final int[][] alike = new int[LINE_MOST + 1][RESULT_MOST + 1];

        void become(Signs line, Signs made) {
            result.copy(made);
            for (int mark = 0; mark < Marks.MANY; mark++) {
                places[mark] = Marks.placeIn(line, mark);
            }
            for (int place = LINE_MOST; place >= 0; place--) {
                for (int reached = RESULT_MOST; reached >= 0; reached--) {
                    alike[place][reached] = countAlike(line, place, reached);
                }
            }
        }

        /** How many signs are the same in the line from a place on and in the result from another on. */
        private int countAlike(Signs line, int place, int reached) {
            if (place >= LINE_MOST || reached >= RESULT_MOST) {
                return 0;
            }
            if (place >= line.many() || reached >= result.many() || line.at(place) != result.at(reached)) {
                return 0;
            }
            return alike[place + 1][reached + 1] + 1;
        }

        Signs result() {
            return result;
        }

        int placeOf(int mark) {
            return mark >= 0 && mark < Marks.MANY ? places[mark] : NONE;
        }

        /** How long a cut from a place on can be, if the result is made up to another. */
        int longestFrom(int from, int reached) {
            if (from < 0 || from > LINE_MOST || reached < 0 || reached > RESULT_MOST) {
                return 0;
            }
            return alike[from][reached];
        }

        /** How many signs of the result a cut makes, if it is made up to a place; 0: the cut does not fit there. */
        int cutLength(int first, int second, int reached) {
            int from = placeOf(first);
            int length = placeOf(second) - from;
            return length > 0 && length <= longestFrom(from, reached) ? length : 0;
        }
    }

    /** Ways to put one piece more: which state each leads to, how many pieces do so, what the cheapest costs. */
    private static final class Moves {
        static final int MOST = Marks.MANY * Marks.MANY + RESULT_MOST;

        private final int[] targets = new int[MOST];
        private final int[] times = new int[MOST];
        private final int[] prices = new int[MOST];
        private int many;

        int many() {
            return many;
        }

        void clear() {
            many = 0;
        }

        void add(int target, int pieces, int price) {
            if (many < MOST) {
                targets[many] = target;
                times[many] = pieces;
                prices[many] = price;
                many++;
            }
        }

        int target(int i) {
            return i >= 0 && i < MOST ? targets[i] : 0;
        }

        int pieces(int i) {
            return i >= 0 && i < MOST ? times[i] : 0;
        }

        int price(int i) {
            return i >= 0 && i < MOST ? prices[i] : 0;
        }
    }

    /**
     * All plans that make of each row's line its result. A state tells how far each result is made, one digit a row;
     * each piece makes a sign at least in every row, so a state leads to greater ones alone.
     */
    private static final class Fitting {
        private static final int ROWS_MOST = EXAMPLES_MOST + 1;
        private static final int BASE = RESULT_MOST + 1;
        private static final int STATES = BASE * BASE * BASE * BASE;
        private static final int FAR = 1000000;

        private final Row[] rows = new Row[ROWS_MOST];
        private final int[] reached = new int[ROWS_MOST];
        private final int[] heads = new int[Marks.MANY];
        private final int[] sizes = new int[Marks.MANY];
        private final int[] prices = new int[Marks.MANY];
        private final Moves moves = new Moves();
        private final long[] ways = new long[STATES];
        private final int[] least = new int[STATES];
        private int many;
        private int groups;

        Fitting() {
            for (int row = 0; row < ROWS_MOST; row++) {
                rows[row] = new Row();
            }
        }

        void clear() {
            many = 0;
        }

        void addRow(Signs line, Signs result) {
            if (many < ROWS_MOST) {
                rows[many].become(line, result);
                many++;
            }
        }

        void dropRow() {
            if (many > 0) {
                many--;
            }
        }

        /** How many plans there are. */
        long count() {
            groupMarks();
            for (int state = 0; state < STATES; state++) {
                ways[state] = 0;
            }
            ways[0] = 1;
            int end = lastState();
            for (int state = 0; state < end; state++) {
                if (ways[state] != 0) {
                    listMoves(state);
                    for (int i = 0; i < moves.many(); i++) {
                        addWays(moves.target(i), ways[state] * moves.pieces(i));
                    }
                }
            }
            return ways[end];
        }

        private void addWays(int state, long more) {
            if (state >= 0 && state < STATES) {
                ways[state] += more;
            }
        }

        /** What the cheapest pieces from each state on cost; only of the states that counting has reached. */
        void weigh() {
            int end = lastState();
            least[end] = 0;
            for (int state = end - 1; state >= 0; state--) {
                if (ways[state] != 0) {
                    listMoves(state);
                    int lowest = FAR;
                    for (int i = 0; i < moves.many(); i++) {
                        lowest = Math.min(lowest, moves.price(i) + leastFrom(moves.target(i)));
                    }
                    least[state] = lowest;
                }
            }
        }

        private int leastFrom(int state) {
            return state >= 0 && state < STATES ? least[state] : FAR;
        }

        /** Tells the best plan of those that were weighed. Of equal cost a cut goes ahead of a text. */
        void tell(Plan plan) {
            int end = lastState();
            int state = 0;
            for (int i = 0; i < RESULT_MOST && state < end; i++) {
                reach(state);
                int target = tellCut(state, plan);
                state = target != NONE ? target : tellText(state, plan);
            }
        }

        /** The state behind the first cut, in the order of the marks' codes, that costs the least; NONE: only a text does. */
        private int tellCut(int state, Plan plan) {
            for (int first = 0; first < Marks.MANY; first++) {
                int seconds = canBegin(first) ? Marks.MANY : 0;
                for (int second = 0; second < seconds; second++) {
                    int target = cutTarget(state, first, second);
                    int price = Piece.cutPrice(Marks.price(first), Marks.price(second));
                    if (target != NONE && price + leastFrom(target) == leastFrom(state)) {
                        plan.next().becomeCut(first, second);
                        return target;
                    }
                }
            }
            return NONE;
        }

        private int tellText(int state, Plan plan) {
            int longest = longestText();
            for (int length = 1; length <= longest; length++) {
                int target = textTarget(state, length);
                if (Piece.textPrice(length) + leastFrom(target) == leastFrom(state)) {
                    plan.next().becomeText(rows[0].result(), reached[0], reached[0] + length);
                    return target;
                }
            }
            return lastState();
        }

        private void listMoves(int state) {
            moves.clear();
            reach(state);
            for (int first = 0; first < groups; first++) {
                if (canBegin(heads[first])) {
                    listCuts(state, first);
                }
            }
            int longest = longestText();
            for (int length = 1; length <= longest; length++) {
                moves.add(textTarget(state, length), 1, Piece.textPrice(length));
            }
        }

        private void listCuts(int state, int first) {
            for (int second = 0; second < groups; second++) {
                int target = cutTarget(state, heads[first], heads[second]);
                if (target != NONE) {
                    int price = Piece.cutPrice(prices[first], prices[second]);
                    moves.add(target, sizes[first] * sizes[second], price);
                }
            }
        }

        /** Marks that tell the same places in all rows make the same cuts, so they are counted as one group. */
        private void groupMarks() {
            groups = 0;
            for (int mark = 0; mark < Marks.MANY; mark++) {
                if (isToldInAll(mark)) {
                    joinGroup(mark);
                }
            }
        }

        private void joinGroup(int mark) {
            int group = 0;
            while (group < groups && !tellSame(heads[group], mark)) {
                group++;
            }
            if (group >= Marks.MANY) {
                return;
            }
            if (group == groups) {
                heads[group] = mark;
                sizes[group] = 0;
                prices[group] = Marks.price(mark);
                groups++;
            }
            sizes[group]++;
            prices[group] = Math.min(prices[group], Marks.price(mark));
        }

        private boolean isToldInAll(int mark) {
            for (int row = 0; row < many; row++) {
                if (rows[row].placeOf(mark) == NONE) {
                    return false;
                }
            }
            return true;
        }

        private boolean tellSame(int mark, int other) {
            for (int row = 0; row < many; row++) {
                if (rows[row].placeOf(mark) != rows[row].placeOf(other)) {
                    return false;
                }
            }
            return true;
        }

        private void reach(int state) {
            int rest = state;
            for (int row = 0; row < many; row++) {
                reached[row] = rest % BASE;
                rest /= BASE;
            }
        }

        private boolean canBegin(int mark) {
            for (int row = 0; row < many; row++) {
                if (rows[row].longestFrom(rows[row].placeOf(mark), reached[row]) == 0) {
                    return false;
                }
            }
            return true;
        }

        /** The state behind a cut from the one that is reached, or NONE. */
        private int cutTarget(int state, int first, int second) {
            int target = state;
            int digit = 1;
            for (int row = 0; row < many; row++) {
                int length = rows[row].cutLength(first, second, reached[row]);
                if (length == 0) {
                    return NONE;
                }
                target += length * digit;
                digit *= BASE;
            }
            return target;
        }

        private int textTarget(int state, int length) {
            int target = state;
            int digit = 1;
            for (int row = 0; row < many; row++) {
                target += length * digit;
                digit *= BASE;
            }
            return target;
        }

        /** How many signs come next in all results alike. */
        private int longestText() {
            int length = 0;
            while (length < RESULT_MOST && isNextInAll(length)) {
                length++;
            }
            return length;
        }

        private boolean isNextInAll(int ahead) {
            int code = rows[0].result().at(reached[0] + ahead);
            for (int row = 0; row < many; row++) {
                if (rows[row].result().at(reached[row] + ahead) != code) {
                    return false;
                }
            }
            return code != 0;
        }

        /** The state in which all results are made. */
        private int lastState() {
            int end = 0;
            int digit = 1;
            for (int row = 0; row < many; row++) {
                end += rows[row].result().many() * digit;
                digit *= BASE;
            }
            return Math.min(end, STATES - 1);
        }
    }
}
