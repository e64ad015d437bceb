import java.util.NoSuchElementException;

/** A house for leaping pegs: boards, jumps, problems, weights, duels, symmetries and notations. */
public final class PegshoreHouse {
    private static final int SIDE = 5;
    private static final int CELLS = 25;
    private static final int MOST_HOLES = 13;
    /** From each of 13 holes a peg jumps in at most eight directions. */
    private static final int MOST_LINES = 104;
    private static final int POSITIONS = 8192;
    /** Each jump takes a peg, and the last peg has none to jump over. */
    private static final int MOST_MADE = 12;
    private static final int MOST_TOLD = 12;
    private static final int MOST_SWEEP_HOLES = 10;
    /** For each position of ten holes one figure a hole. */
    private static final int FIGURES = 10240;
    private static final int MOST_WEIGHT = 99;
    private static final int COLOURS = 3;
    private static final int COLOURINGS = 2;
    private static final int TURNS = 8;
    private static final int CODE = 100;
    /** Above every number of sweeps that a position can take. */
    private static final int MANY = 1000;
    private static final int NONE = -1;

    private final Board board;
    private final Walk walk;
    private final Row madeCodes;
    private final Row toldHoles;
    private int position;
    private int end;

    public PegshoreHouse() {
        Board laid = new Board();
        board = laid;
        walk = new Walk(laid);
        madeCodes = new Row(MOST_MADE);
        toldHoles = new Row(MOST_TOLD);
    }

    // ---- boards

    public char setKind(char kind) throws IllegalArgumentException {
        if (kind != 's' && kind != 't' && kind != 'd') {
            throw new IllegalArgumentException("no such kind");
        }
        char before = board.kind;
        board.changeKind(kind);
        forgetAll();
        return before;
    }

    public int drill(int cell) throws IllegalArgumentException, UnsupportedOperationException, IllegalStateException {
        requireCell(cell);
        if (board.isHole(cell)) {
            throw new UnsupportedOperationException("a hole already");
        }
        if (board.holes() >= MOST_HOLES) {
            throw new IllegalStateException("13 holes already");
        }
        board.open(cell);
        int hole = board.numberOf(cell);
        int low = position & (1 << hole) - 1;
        position = low | position - low << 1;
        end = 0;
        forgetAll();
        return board.holes();
    }

    public int fill(int cell) throws IllegalArgumentException, UnsupportedOperationException {
        requireCell(cell);
        if (!board.isHole(cell)) {
            throw new UnsupportedOperationException("no hole");
        }
        int hole = board.numberOf(cell);
        board.close(cell);
        int low = position & (1 << hole) - 1;
        position = low | position >> hole + 1 << hole;
        end = 0;
        forgetAll();
        return board.holes();
    }

    public int hole(int cell) throws IllegalArgumentException, NoSuchElementException {
        requireCell(cell);
        if (!board.isHole(cell)) {
            throw new NoSuchElementException("no hole");
        }
        return board.numberOf(cell);
    }

    public int cell(int hole) throws IndexOutOfBoundsException {
        requireHole(hole);
        return board.cellOf(hole);
    }

    public int lines() {
        return board.lineCount();
    }

    public int symmetries() {
        int count = 0;
        for (int turn = 0; turn < TURNS; turn++) {
            if (board.isSymmetry(turn)) {
                count++;
            }
        }
        return count;
    }

    // ---- positions, jumps

    public int put(int pegs) throws IndexOutOfBoundsException {
        requirePegs(pegs);
        int before = position;
        position = pegs;
        madeCodes.empty();
        return before;
    }

    public int now() {
        return position;
    }

    public boolean mayJump(int from, int to) throws IndexOutOfBoundsException {
        requireHole(from);
        requireHole(to);
        return behindJump(position, from, to) != NONE;
    }

    public int jump(int from, int to) throws IndexOutOfBoundsException, UnsupportedOperationException {
        makeJump(from, to, requireJump(from, to));
        return Integer.bitCount(position);
    }

    public int jumps() {
        return board.countJumps(position);
    }

    public int jumpAt(int index) throws NoSuchElementException {
        int passed = 0;
        for (int line = 0; line < board.lineCount(); line++) {
            if (board.behind(position, line) != NONE) {
                if (passed == index) {
                    return board.codeOf(line);
                }
                passed++;
            }
        }
        throw new NoSuchElementException("no such jump");
    }

    public int takeBack() throws NoSuchElementException {
        if (madeCodes.size() == 0) {
            throw new NoSuchElementException("no jump was made");
        }
        int code = madeCodes.removeLast();
        position = board.ahead(position, board.lineOf(code));
        return code;
    }

    public int made() {
        return madeCodes.size();
    }

    public int sweeps() {
        int count = 0;
        int last = NONE;
        for (int i = 0; i < madeCodes.size(); i++) {
            int code = madeCodes.at(i);
            if (code / CODE != last) {
                count++;
            }
            last = code % CODE;
        }
        return count;
    }

    public int leastForm(int pegs) throws IndexOutOfBoundsException {
        requirePegs(pegs);
        int least = pegs;
        for (int turn = 0; turn < TURNS; turn++) {
            if (board.isSymmetry(turn)) {
                least = Math.min(least, board.turnedPegs(pegs, turn));
            }
        }
        return least;
    }

    // ---- problems

    public int setEnd(int pegs) throws IndexOutOfBoundsException {
        requirePegs(pegs);
        int before = end;
        end = pegs;
        return before;
    }

    public boolean canEnd() {
        walk.begin(position);
        return walk.waysTo(end) > 0;
    }

    public long ways() {
        walk.begin(position);
        return walk.waysTo(end);
    }

    public int hint() throws NoSuchElementException {
        walk.begin(position);
        walk.figureLeads(end);
        int line = lineTo(1);
        if (line == NONE) {
            throw new NoSuchElementException("no jump keeps the end");
        }
        return board.codeOf(line);
    }

    public boolean loses(int from, int to) throws IndexOutOfBoundsException, UnsupportedOperationException {
        int behind = requireJump(from, to);
        walk.begin(position);
        walk.figureLeads(end);
        return walk.figureAt(position) == 1 && walk.figureAt(behind) == 0;
    }

    public int reached() {
        walk.begin(position);
        return walk.size;
    }

    public int dead() {
        walk.begin(position);
        return walk.deadCount;
    }

    public int fewest() {
        walk.begin(position);
        return walk.fewestPegs;
    }

    public int leastSweeps() throws UnsupportedOperationException, NoSuchElementException {
        if (board.holes() > MOST_SWEEP_HOLES) {
            throw new UnsupportedOperationException("more than 10 holes");
        }
        walk.begin(position);
        int least = walk.leastSweepsTo(end);
        if (least >= MANY) {
            throw new NoSuchElementException("the end cannot be come to");
        }
        return least;
    }

    public int highest() throws NoSuchElementException {
        walk.begin(position);
        for (int hole = 0; hole < board.holes(); hole++) {
            if ((walk.touched >> hole & 1) == 1) {
                return board.cellOf(hole) / SIDE;
            }
        }
        throw new NoSuchElementException("no peg");
    }

    // ---- weights, colours

    public int weigh(int hole, int weight) throws IndexOutOfBoundsException, IllegalArgumentException {
        requireHole(hole);
        if (weight < -MOST_WEIGHT || weight > MOST_WEIGHT) {
            throw new IllegalArgumentException("weight out of range");
        }
        int before = board.weightOf(hole);
        board.changeWeight(hole, weight);
        return before;
    }

    public int weight(int pegs) throws IndexOutOfBoundsException {
        requirePegs(pegs);
        return board.weightOfPegs(pegs);
    }

    public boolean isProof() {
        return board.faultLine() == NONE;
    }

    public int fault() throws NoSuchElementException {
        int line = board.faultLine();
        if (line == NONE) {
            throw new NoSuchElementException("the weights are a proof");
        }
        return board.codeOf(line);
    }

    public boolean isBarred(boolean byWeights) {
        if (byWeights) {
            return board.faultLine() == NONE && board.weightOfPegs(end) > board.weightOfPegs(position);
        }
        for (int number = 0; number < COLOURINGS; number++) {
            if (board.isFitColouring(number) && isOddApart(number)) {
                return true;
            }
        }
        return false;
    }

    public int colour(int hole, int number) throws IndexOutOfBoundsException, IllegalArgumentException {
        requireHole(hole);
        requireColouring(number);
        return board.colourOf(hole, number);
    }

    public boolean isFit(int number) throws IllegalArgumentException {
        requireColouring(number);
        return board.isFitColouring(number);
    }

    // ---- duels, notations

    public int value() {
        walk.begin(position);
        walk.figureValues();
        return walk.figureAt(position);
    }

    public int winning() throws NoSuchElementException {
        walk.begin(position);
        walk.figureValues();
        int line = lineTo(0);
        if (line == NONE) {
            throw new NoSuchElementException("no jump wins");
        }
        return board.codeOf(line);
    }

    public int tell(int hole) throws IndexOutOfBoundsException, IllegalStateException {
        requireHole(hole);
        if (toldHoles.size() >= MOST_TOLD) {
            throw new IllegalStateException("12 holes are told");
        }
        toldHoles.add(hole);
        return toldHoles.size();
    }

    public int play() throws UnsupportedOperationException {
        if (rowFault() != NONE) {
            throw new UnsupportedOperationException("the row has a fault");
        }
        int count = toldHoles.size() - 1;
        for (int i = 1; i <= count; i++) {
            int from = toldHoles.at(i - 1);
            int to = toldHoles.at(i);
            makeJump(from, to, behindJump(position, from, to));
        }
        toldHoles.empty();
        return count;
    }

    public int faultAt() throws NoSuchElementException {
        int index = rowFault();
        if (index == NONE) {
            throw new NoSuchElementException("the row has no fault");
        }
        return index;
    }

    public int clear() {
        int count = toldHoles.size();
        toldHoles.empty();
        return count;
    }

    // ---- figures

    public long checksum() {
        long sum = 7;
        for (int hole = 0; hole < board.holes(); hole++) {
            sum = 31 * sum + board.cellOf(hole);
            sum = 31 * sum + board.weightOf(hole);
        }
        sum = 31 * sum + position;
        sum = 31 * sum + end;
        for (int i = 0; i < madeCodes.size(); i++) {
            sum = 31 * sum + madeCodes.at(i);
        }
        return sum;
    }

    public int pegBits() throws ArithmeticException {
        int holes = board.holes();
        if (holes == 0) {
            throw new ArithmeticException("no holes");
        }
        return floatBits((float) Integer.bitCount(position) / (float) holes);
    }

    public double meanJumps() {
        walk.begin(position);
        return walk.size == 0 ? 0 : (double) walk.jumpSum / (double) walk.size;
    }

    public boolean isSound() {
        return board.hasPegs(position) && board.hasPegs(end) && isToldSound() && isMadeSound();
    }

    // ---- of the house's own

    private static void requireCell(int cell) {
        if (cell < 0 || cell >= CELLS) {
            throw new IllegalArgumentException("no such cell");
        }
    }

    private void requireHole(int hole) {
        if (hole < 0 || hole >= board.holes()) {
            throw new IndexOutOfBoundsException("no such hole");
        }
    }

    private void requirePegs(int pegs) {
        if (!board.hasPegs(pegs)) {
            throw new IndexOutOfBoundsException("a peg without a hole");
        }
    }

    private static void requireColouring(int number) {
        if (number < 0 || number >= COLOURINGS) {
            throw new IllegalArgumentException("no such colouring");
        }
    }

    /** The position behind a jump that can be made. */
    private int requireJump(int from, int to) {
        requireHole(from);
        requireHole(to);
        int behind = behindJump(position, from, to);
        if (behind == NONE) {
            throw new UnsupportedOperationException("this jump cannot be made");
        }
        return behind;
    }

    private int behindJump(int pegs, int from, int to) {
        return board.behind(pegs, board.lineOf(from * CODE + to));
    }

    private void makeJump(int from, int to, int behind) {
        if (behind != NONE) {
            madeCodes.add(from * CODE + to);
            position = behind;
        }
    }

    private void forgetAll() {
        madeCodes.empty();
        toldHoles.empty();
        walk.forget();
    }

    /** The first jump that can be made to a position of the walk with this figure. */
    private int lineTo(int figure) {
        for (int line = 0; line < board.lineCount(); line++) {
            int behind = board.behind(position, line);
            if (behind != NONE && walk.figureAt(behind) == figure) {
                return line;
            }
        }
        return NONE;
    }

    private boolean isOddApart(int number) {
        for (int one = 0; one < COLOURS; one++) {
            for (int other = one + 1; other < COLOURS; other++) {
                int sumNow = board.countColour(position, one, number) + board.countColour(position, other, number);
                int sumEnd = board.countColour(end, one, number) + board.countColour(end, other, number);
                if ((sumNow & 1) != (sumEnd & 1)) {
                    return true;
                }
            }
        }
        return false;
    }

    private int rowFault() {
        int first = toldHoles.at(0);
        if (first == NONE || (position >> first & 1) == 0) {
            return 0;
        }
        if (toldHoles.size() == 1) {
            return 1;
        }
        int pegs = position;
        for (int i = 1; i < toldHoles.size(); i++) {
            pegs = behindJump(pegs, toldHoles.at(i - 1), toldHoles.at(i));
            if (pegs == NONE) {
                return i;
            }
        }
        return NONE;
    }

    /** Float.floatToIntBits is outside the language, so the bits of a share, 0 to 1, are made by exact doublings. */
    private static int floatBits(float share) {
        if (share <= 0) {
            return 0;
        }
        float mantissa = share;
        int exponent = 127;
        while (mantissa < 1 && exponent > 1) {
            mantissa = mantissa * 2;
            exponent--;
        }
        return exponent << 23 | (int) ((mantissa - 1) * 8388608);
    }

    private boolean isToldSound() {
        for (int i = 0; i < toldHoles.size(); i++) {
            int hole = toldHoles.at(i);
            if (hole < 0 || hole >= board.holes()) {
                return false;
            }
        }
        return true;
    }

    private boolean isMadeSound() {
        int pegs = position;
        for (int i = madeCodes.size() - 1; i >= 0; i--) {
            int line = board.lineOf(madeCodes.at(i));
            int before = board.ahead(pegs, line);
            if (board.behind(before, line) != pegs) {
                return false;
            }
            pegs = before;
        }
        return true;
    }

    /** A row of numbers from 0 on, with a fixed room, that answers NONE where it has none. */
    private static final class Row {
        private final int[] items;
        private int size;

        Row(int room) {
            items = new int[room < 0 ? 0 : room];
        }

        int size() {
            return size;
        }

        int at(int index) {
            return index >= 0 && index < size && index < items.length ? items[index] : NONE;
        }

        void add(int item) {
            if (size >= 0 && size < items.length) {
                items[size] = item;
                size++;
            }
        }

        int removeLast() {
            int last = at(size - 1);
            if (size > 0) {
                size--;
            }
            return last;
        }

        void empty() {
            size = 0;
        }
    }

    /** Holes with weights, and the jumps that they have, by codes. */
    private static final class Board {
        private char kind = 's';
        /** The bits of the cells that are holes. */
        private int drilled;
        private final int[] cellWeights = new int[CELLS];
        private final Row cells = new Row(MOST_HOLES);
        private final Row codes = new Row(MOST_LINES);
        private final Row middles = new Row(MOST_LINES);
        /** The bits of the two holes of a jump that have a peg ahead of it. */
        private final Row pairs = new Row(MOST_LINES);
        /** The bits of all three holes of a jump. */
        private final Row spans = new Row(MOST_LINES);

        void changeKind(char next) {
            kind = next;
            layLines();
        }

        void open(int cell) {
            if (cell >= 0 && cell < cellWeights.length) {
                cellWeights[cell] = 0;
                drilled |= 1 << cell;
                layHoles();
            }
        }

        void close(int cell) {
            if (cell >= 0 && cell < CELLS) {
                drilled &= ~(1 << cell);
                layHoles();
            }
        }

        private void layHoles() {
            cells.empty();
            for (int cell = 0; cell < CELLS; cell++) {
                if (isHole(cell)) {
                    cells.add(cell);
                }
            }
            layLines();
        }

        /** Goes by from and then by to, so that the rows are sorted by codes. */
        private void layLines() {
            codes.empty();
            middles.empty();
            pairs.empty();
            spans.empty();
            for (int from = 0; from < cells.size(); from++) {
                for (int to = 0; to < cells.size(); to++) {
                    if (isLine(cells.at(from), cells.at(to))) {
                        addLine(from, to);
                    }
                }
            }
        }

        private void addLine(int from, int to) {
            int middle = numberOf((cells.at(from) + cells.at(to)) / 2);
            int pair = 1 << from | 1 << middle;
            codes.add(from * CODE + to);
            middles.add(middle);
            pairs.add(pair);
            spans.add(pair | 1 << to);
        }

        private boolean isLine(int fromCell, int toCell) {
            int down = toCell / SIDE - fromCell / SIDE;
            int right = toCell % SIDE - fromCell % SIDE;
            return isTwoSteps(down, right) && isHole(fromCell) && isHole((fromCell + toCell) / 2) && isHole(toCell);
        }

        private boolean isTwoSteps(int down, int right) {
            if (down == 0 || right == 0) {
                return Math.abs(down + right) == 2;
            }
            if (Math.abs(down) != 2 || Math.abs(right) != 2) {
                return false;
            }
            return kind == 'd' || kind == 't' && down == -right;
        }

        int holes() {
            return cells.size();
        }

        boolean isHole(int cell) {
            return cell >= 0 && cell < CELLS && (drilled >> cell & 1) == 1;
        }

        int numberOf(int cell) {
            return isHole(cell) ? Integer.bitCount(drilled & (1 << cell) - 1) : NONE;
        }

        int cellOf(int hole) {
            return cells.at(hole);
        }

        boolean hasPegs(int pegs) {
            return pegs >= 0 && pegs < 1 << cells.size();
        }

        int lineCount() {
            return codes.size();
        }

        int codeOf(int line) {
            return codes.at(line);
        }

        int lineOf(int code) {
            for (int line = 0; line < codes.size(); line++) {
                if (codes.at(line) == code) {
                    return line;
                }
            }
            return NONE;
        }

        /** The position behind a jump, or NONE if it cannot be made. */
        int behind(int pegs, int line) {
            int span = spans.at(line);
            return span != NONE && (pegs & span) == pairs.at(line) ? pegs ^ span : NONE;
        }

        /** The position ahead of a jump that was made. */
        int ahead(int pegs, int line) {
            int span = spans.at(line);
            return span == NONE ? pegs : pegs ^ span;
        }

        int countJumps(int pegs) {
            int count = 0;
            for (int line = 0; line < codes.size(); line++) {
                if (behind(pegs, line) != NONE) {
                    count++;
                }
            }
            return count;
        }

        boolean isSymmetry(int turn) {
            for (int hole = 0; hole < cells.size(); hole++) {
                if (!isHole(turned(cells.at(hole), turn))) {
                    return false;
                }
            }
            for (int line = 0; line < codes.size(); line++) {
                int from = cells.at(codes.at(line) / CODE);
                int to = cells.at(codes.at(line) % CODE);
                if (!isLine(turned(from, turn), turned(to, turn))) {
                    return false;
                }
            }
            return true;
        }

        /** Two mirrors and a swap of rows and columns, each or not, make the eight turns. */
        private static int turned(int cell, int turn) {
            int row = (turn & 1) == 0 ? cell / SIDE : SIDE - 1 - cell / SIDE;
            int column = (turn & 2) == 0 ? cell % SIDE : SIDE - 1 - cell % SIDE;
            return (turn & 4) == 0 ? row * SIDE + column : column * SIDE + row;
        }

        int turnedPegs(int pegs, int turn) {
            int bits = 0;
            for (int hole = 0; hole < cells.size(); hole++) {
                if ((pegs >> hole & 1) == 1) {
                    bits |= 1 << numberOf(turned(cells.at(hole), turn));
                }
            }
            return bits;
        }

        int weightOf(int hole) {
            int cell = cells.at(hole);
            return cell >= 0 && cell < cellWeights.length ? cellWeights[cell] : 0;
        }

        void changeWeight(int hole, int weight) {
            int cell = cells.at(hole);
            if (cell >= 0 && cell < cellWeights.length) {
                cellWeights[cell] = weight;
            }
        }

        int weightOfPegs(int pegs) {
            int sum = 0;
            for (int hole = 0; hole < cells.size(); hole++) {
                if ((pegs >> hole & 1) == 1) {
                    sum += weightOf(hole);
                }
            }
            return sum;
        }

        /** The first of the jumps that make most more, or NONE if none makes more. */
        int faultLine() {
            int most = 0;
            int fault = NONE;
            for (int line = 0; line < codes.size(); line++) {
                int code = codes.at(line);
                int more = weightOf(code % CODE) - weightOf(code / CODE) - weightOf(middles.at(line));
                if (more > most) {
                    most = more;
                    fault = line;
                }
            }
            return fault;
        }

        int colourOf(int hole, int number) {
            int row = cells.at(hole) / SIDE;
            int column = cells.at(hole) % SIDE;
            return (number == 0 ? row + column : row + SIDE - column) % COLOURS;
        }

        int countColour(int pegs, int colour, int number) {
            int count = 0;
            for (int hole = 0; hole < cells.size(); hole++) {
                if ((pegs >> hole & 1) == 1 && colourOf(hole, number) == colour) {
                    count++;
                }
            }
            return count;
        }

        boolean isFitColouring(int number) {
            for (int line = 0; line < codes.size(); line++) {
                int from = colourOf(codes.at(line) / CODE, number);
                int middle = colourOf(middles.at(line), number);
                int to = colourOf(codes.at(line) % CODE, number);
                if (from == middle || middle == to || from == to) {
                    return false;
                }
            }
            return true;
        }
    }

    /**
     * The positions that can be come to from a start. They are kept until the start or the board is another one,
     * since many calls ask for the same walk.
     */
    private static final class Walk {
        private static final int NO_FIGURES = 0;
        private static final int LEADS = 1;
        private static final int VALUES = 2;

        private final Board board;
        /** The positions in the order of their finding: each jump takes a peg, so none leads to an earlier one. */
        private final int[] found = new int[POSITIONS];
        /** By positions, how many ways lead there from the start. */
        private final long[] ways = new long[POSITIONS];
        /** By positions, what was last asked for; by positions and holes, sweeps. */
        private final int[] figures = new int[FIGURES];
        private int size;
        private int start = NONE;
        private int deadCount;
        private int fewestPegs;
        private int touched;
        private int jumpSum;
        private int figured = NO_FIGURES;
        private int figuredEnd;

        Walk(Board board) {
            this.board = board;
        }

        void forget() {
            start = NONE;
        }

        void begin(int position) {
            if (position == start) {
                return;
            }
            wipe();
            start = position;
            fewestPegs = Integer.bitCount(position);
            find(position, 1);
            for (int i = 0; i < size && i < found.length; i++) {
                visit(found[i]);
            }
        }

        private void wipe() {
            for (int i = 0; i < size && i < found.length; i++) {
                int position = found[i];
                if (position >= 0 && position < ways.length) {
                    ways[position] = 0;
                }
            }
            size = 0;
            deadCount = 0;
            touched = 0;
            jumpSum = 0;
            figured = NO_FIGURES;
        }

        private void find(int position, long more) {
            if (position < 0 || position >= ways.length) {
                return;
            }
            if (ways[position] == 0 && size >= 0 && size < found.length) {
                found[size] = position;
                size++;
            }
            ways[position] += more;
        }

        private void visit(int position) {
            int count = 0;
            for (int line = 0; line < board.lineCount(); line++) {
                int behind = board.behind(position, line);
                if (behind != NONE) {
                    count++;
                    find(behind, waysTo(position));
                }
            }
            jumpSum += count;
            touched |= position;
            fewestPegs = Math.min(fewestPegs, Integer.bitCount(position));
            if (count == 0) {
                deadCount++;
            }
        }

        long waysTo(int position) {
            return position >= 0 && position < ways.length ? ways[position] : 0;
        }

        int figureAt(int index) {
            return index >= 0 && index < figures.length ? figures[index] : NONE;
        }

        private void changeFigure(int index, int figure) {
            if (index >= 0 && index < figures.length) {
                figures[index] = figure;
            }
        }

        /** Figures 1 for the positions from which the end can be come to, 0 for the others. */
        void figureLeads(int end) {
            if (figured == LEADS && figuredEnd == end) {
                return;
            }
            figured = LEADS;
            figuredEnd = end;
            for (int i = Math.min(size, found.length) - 1; i >= 0; i--) {
                changeFigure(found[i], leads(found[i], end) ? 1 : 0);
            }
        }

        private boolean leads(int position, int end) {
            if (position == end) {
                return true;
            }
            for (int line = 0; line < board.lineCount(); line++) {
                int behind = board.behind(position, line);
                if (behind != NONE && figureAt(behind) == 1) {
                    return true;
                }
            }
            return false;
        }

        /** Figures the value of each position. */
        void figureValues() {
            if (figured == VALUES) {
                return;
            }
            figured = VALUES;
            for (int i = Math.min(size, found.length) - 1; i >= 0; i--) {
                changeFigure(found[i], leastOther(found[i]));
            }
        }

        /** No value is above the number of jumps that can still be made, so that bits of an int hold them. */
        private int leastOther(int position) {
            int taken = 0;
            for (int line = 0; line < board.lineCount(); line++) {
                int behind = board.behind(position, line);
                if (behind != NONE) {
                    taken |= 1 << figureAt(behind);
                }
            }
            int least = 0;
            while (least < MOST_HOLES && (taken >> least & 1) == 1) {
                least++;
            }
            return least;
        }

        /** Figures the sweeps to each position by the hole at which the last of them stands; MANY if there is none. */
        int leastSweepsTo(int end) {
            figured = NO_FIGURES;
            for (int i = 0; i < size && i < found.length; i++) {
                for (int hole = 0; hole < MOST_SWEEP_HOLES; hole++) {
                    changeFigure(found[i] * MOST_SWEEP_HOLES + hole, MANY);
                }
            }
            for (int i = 0; i < size && i < found.length; i++) {
                int least = leastSweepsAt(found[i]);
                if (found[i] == end) {
                    return least;
                }
                sweepOn(found[i], least);
            }
            return MANY;
        }

        private int leastSweepsAt(int position) {
            int least = position == start ? 0 : MANY;
            for (int hole = 0; hole < MOST_SWEEP_HOLES; hole++) {
                least = Math.min(least, figureAt(position * MOST_SWEEP_HOLES + hole));
            }
            return least;
        }

        private void sweepOn(int position, int least) {
            for (int line = 0; line < board.lineCount(); line++) {
                int behind = board.behind(position, line);
                if (behind != NONE) {
                    int from = board.codeOf(line) / CODE;
                    int to = board.codeOf(line) % CODE;
                    int count = Math.min(least + 1, figureAt(position * MOST_SWEEP_HOLES + from));
                    int index = behind * MOST_SWEEP_HOLES + to;
                    changeFigure(index, Math.min(count, figureAt(index)));
                }
            }
        }
    }
}
