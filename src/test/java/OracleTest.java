import java.util.ArrayList;
import java.util.HashMap;
import java.util.HashSet;
import java.util.List;
import java.util.Map;
import java.util.NoSuchElementException;
import java.util.Random;
import java.util.Set;

/** Runs of 512 calls by seeds, each answer held against a slow house that thinks in cells. */
public final class OracleTest {
    private static final int RUNS = 400;
    private static final int CALLS = 512;
    private static final int[] WILD = {-1, Integer.MIN_VALUE, Integer.MAX_VALUE, 13, 25, 100, -99, -100, 8192, 1 << 30};
    private static int wrong = 0;

    /** A house whose positions are sets of cells, and which searches anew for each answer. */
    private static final class SlowHouse {
        char kind = 's';
        final boolean[] drilled = new boolean[25];
        final int[] weights = new int[25];
        int pegs;
        int end;
        final List<int[]> made = new ArrayList<>();
        final List<Integer> told = new ArrayList<>();

        List<Integer> cells() {
            List<Integer> cells = new ArrayList<>();
            for (int cell = 0; cell < 25; cell++) {
                if (drilled[cell]) {
                    cells.add(cell);
                }
            }
            return cells;
        }

        int number(int cell) {
            return cells().indexOf(cell);
        }

        int cellAt(int hole) {
            if (hole < 0 || hole >= cells().size()) {
                throw new IndexOutOfBoundsException();
            }
            return cells().get(hole);
        }

        int toCells(int bits) {
            int set = 0;
            for (int bit = 0; bit < 32; bit++) {
                if ((bits >>> bit & 1) == 1) {
                    set |= 1 << cellAt(bit);
                }
            }
            return set;
        }

        int toBits(int set) {
            int bits = 0;
            for (int cell = 0; cell < 25; cell++) {
                if (has(set, cell)) {
                    bits |= 1 << number(cell);
                }
            }
            return bits;
        }

        static boolean has(int set, int cell) {
            return (set >> cell & 1) == 1;
        }

        /** All jumps of the board, as from, over and to; by codes. */
        List<int[]> boardJumps() {
            int[][] steps = {{0, 1}, {1, 0}, {1, -1}, {1, 1}};
            int used = kind == 's' ? 2 : kind == 't' ? 3 : 4;
            List<int[]> jumps = new ArrayList<>();
            for (int from : cells()) {
                for (int i = 0; i < used; i++) {
                    for (int way = -1; way <= 1; way += 2) {
                        int over = step(from, steps[i][0] * way, steps[i][1] * way);
                        int to = over < 0 ? -1 : step(over, steps[i][0] * way, steps[i][1] * way);
                        if (to >= 0) {
                            jumps.add(new int[] {from, over, to});
                        }
                    }
                }
            }
            jumps.sort((a, b) -> code(a) - code(b));
            return jumps;
        }

        int step(int cell, int down, int right) {
            int row = cell / 5 + down;
            int column = cell % 5 + right;
            boolean inside = row >= 0 && row < 5 && column >= 0 && column < 5;
            return inside && drilled[row * 5 + column] ? row * 5 + column : -1;
        }

        int code(int[] jump) {
            return 100 * number(jump[0]) + number(jump[2]);
        }

        List<int[]> jumpsFrom(int set) {
            List<int[]> jumps = new ArrayList<>();
            for (int[] jump : boardJumps()) {
                if (has(set, jump[0]) && has(set, jump[1]) && !has(set, jump[2])) {
                    jumps.add(jump);
                }
            }
            return jumps;
        }

        static int after(int set, int[] jump) {
            return set - (1 << jump[0]) - (1 << jump[1]) + (1 << jump[2]);
        }

        int[] find(int set, int from, int to) {
            for (int[] jump : jumpsFrom(set)) {
                if (jump[0] == from && jump[2] == to) {
                    return jump;
                }
            }
            return null;
        }

        Set<Integer> reach(int set) {
            Set<Integer> seen = new HashSet<>();
            List<int[]> all = boardJumps();
            reach(set, seen, all);
            return seen;
        }

        private void reach(int set, Set<Integer> seen, List<int[]> all) {
            if (seen.add(set)) {
                for (int[] jump : all) {
                    if (has(set, jump[0]) && has(set, jump[1]) && !has(set, jump[2])) {
                        reach(after(set, jump), seen, all);
                    }
                }
            }
        }

        long ways(int set, Map<Integer, Long> memo) {
            if (set == end) {
                return 1;
            }
            Long known = memo.get(set);
            if (known != null) {
                return known;
            }
            long sum = 0;
            for (int[] jump : jumpsFrom(set)) {
                sum += ways(after(set, jump), memo);
            }
            memo.put(set, sum);
            return sum;
        }

        boolean canEnd(int set) {
            return reach(set).contains(end);
        }

        int value(int set, Map<Integer, Integer> memo) {
            Integer known = memo.get(set);
            if (known != null) {
                return known;
            }
            Set<Integer> others = new HashSet<>();
            for (int[] jump : jumpsFrom(set)) {
                others.add(value(after(set, jump), memo));
            }
            int value = 0;
            while (others.contains(value)) {
                value++;
            }
            memo.put(set, value);
            return value;
        }

        /** The least sweeps still needed, if the last jump came to a cell. */
        int sweepsLeft(int set, int last, Map<Long, Integer> memo) {
            if (set == end) {
                return 0;
            }
            long key = set * 32L + last + 1;
            Integer known = memo.get(key);
            if (known != null) {
                return known;
            }
            int least = 9999;
            for (int[] jump : jumpsFrom(set)) {
                int more = jump[0] == last ? 0 : 1;
                least = Math.min(least, more + sweepsLeft(after(set, jump), jump[2], memo));
            }
            memo.put(key, least);
            return least;
        }

        static int turn(int cell, int times, boolean mirrored) {
            int row = cell / 5;
            int column = mirrored ? 4 - cell % 5 : cell % 5;
            for (int i = 0; i < times; i++) {
                int next = column;
                column = 4 - row;
                row = next;
            }
            return row * 5 + column;
        }

        boolean isSymmetry(int times, boolean mirrored) {
            Set<String> jumps = new HashSet<>();
            for (int[] jump : boardJumps()) {
                jumps.add(jump[0] + " " + jump[1] + " " + jump[2]);
            }
            for (int cell = 0; cell < 25; cell++) {
                if (drilled[cell] != drilled[turn(cell, times, mirrored)]) {
                    return false;
                }
            }
            for (int[] jump : boardJumps()) {
                String behind = turn(jump[0], times, mirrored) + " " + turn(jump[1], times, mirrored) + " "
                        + turn(jump[2], times, mirrored);
                if (!jumps.contains(behind)) {
                    return false;
                }
            }
            return true;
        }

        int leastForm(int set) {
            int least = Integer.MAX_VALUE;
            for (int i = 0; i < 8; i++) {
                if (isSymmetry(i % 4, i >= 4)) {
                    int behind = 0;
                    for (int cell = 0; cell < 25; cell++) {
                        if (has(set, cell)) {
                            behind |= 1 << turn(cell, i % 4, i >= 4);
                        }
                    }
                    least = Math.min(least, toBits(behind));
                }
            }
            return least;
        }

        int sum(int set) {
            int sum = 0;
            for (int cell : cells()) {
                sum += has(set, cell) ? weights[cell] : 0;
            }
            return sum;
        }

        int[] fault() {
            int[] fault = null;
            int most = 0;
            for (int[] jump : boardJumps()) {
                int more = weights[jump[2]] - weights[jump[0]] - weights[jump[1]];
                if (more > most) {
                    most = more;
                    fault = jump;
                }
            }
            return fault;
        }

        static int colour(int cell, int number) {
            return number == 0 ? (cell / 5 + cell % 5) % 3 : (cell / 5 + (5 - cell % 5)) % 3;
        }

        boolean isFit(int number) {
            for (int[] jump : boardJumps()) {
                Set<Integer> colours = new HashSet<>();
                for (int cell : jump) {
                    colours.add(colour(cell, number));
                }
                if (colours.size() < 3) {
                    return false;
                }
            }
            return true;
        }

        boolean isBarredByColours() {
            for (int number = 0; number < 2; number++) {
                int[] now = new int[3];
                int[] then = new int[3];
                for (int cell : cells()) {
                    now[colour(cell, number)] += has(pegs, cell) ? 1 : 0;
                    then[colour(cell, number)] += has(end, cell) ? 1 : 0;
                }
                for (int left = 0; left < 3 && isFit(number); left++) {
                    int one = (left + 1) % 3;
                    int other = (left + 2) % 3;
                    if ((now[one] + now[other]) % 2 != (then[one] + then[other]) % 2) {
                        return true;
                    }
                }
            }
            return false;
        }

        int faultAt() {
            if (told.isEmpty() || !has(pegs, told.get(0))) {
                return 0;
            }
            int set = pegs;
            for (int i = 1; i < told.size(); i++) {
                int[] jump = find(set, told.get(i - 1), told.get(i));
                if (jump == null) {
                    return i;
                }
                set = after(set, jump);
            }
            return told.size() == 1 ? 1 : -1;
        }

        void make(int[] jump) {
            pegs = after(pegs, jump);
            made.add(jump);
        }

        void forget() {
            made.clear();
            told.clear();
        }

        int drill(int cell) {
            need(cell >= 0 && cell < 25, new IllegalArgumentException());
            need(!drilled[cell], new UnsupportedOperationException());
            need(cells().size() < 13, new IllegalStateException());
            drilled[cell] = true;
            weights[cell] = 0;
            end = 0;
            forget();
            return cells().size();
        }

        int fill(int cell) {
            need(cell >= 0 && cell < 25, new IllegalArgumentException());
            need(drilled[cell], new UnsupportedOperationException());
            drilled[cell] = false;
            pegs &= ~(1 << cell);
            end = 0;
            forget();
            return cells().size();
        }

        /** The answer of the call with this number. */
        long call(int call, int a, int b) {
            switch (call) {
                case 0: {
                    need(a == 's' || a == 't' || a == 'd', new IllegalArgumentException());
                    long before = kind;
                    kind = (char) a;
                    forget();
                    return before;
                }
                case 1:
                    return drill(a);
                case 2:
                    return fill(a);
                case 3:
                    need(a >= 0 && a < 25, new IllegalArgumentException());
                    need(drilled[a], new NoSuchElementException());
                    return number(a);
                case 4:
                    return cellAt(a);
                case 5:
                    return boardJumps().size();
                case 6: {
                    int count = 0;
                    for (int i = 0; i < 8; i++) {
                        count += isSymmetry(i % 4, i >= 4) ? 1 : 0;
                    }
                    return count;
                }
                case 7: {
                    int next = toCells(a);
                    int before = toBits(pegs);
                    pegs = next;
                    made.clear();
                    return before;
                }
                case 8:
                    return toBits(pegs);
                case 9:
                    return find(pegs, cellAt(a), cellAt(b)) == null ? 0 : 1;
                case 10: {
                    int[] jump = find(pegs, cellAt(a), cellAt(b));
                    need(jump != null, new UnsupportedOperationException());
                    make(jump);
                    return Integer.bitCount(pegs);
                }
                case 11:
                    return jumpsFrom(pegs).size();
                case 12:
                    need(a >= 0 && a < jumpsFrom(pegs).size(), new NoSuchElementException());
                    return code(jumpsFrom(pegs).get(a));
                case 13: {
                    need(!made.isEmpty(), new NoSuchElementException());
                    int[] jump = made.remove(made.size() - 1);
                    pegs = pegs + (1 << jump[0]) + (1 << jump[1]) - (1 << jump[2]);
                    return code(jump);
                }
                case 14:
                    return made.size();
                case 15: {
                    int count = 0;
                    for (int i = 0; i < made.size(); i++) {
                        count += i > 0 && made.get(i)[0] == made.get(i - 1)[2] ? 0 : 1;
                    }
                    return count;
                }
                case 16:
                    return leastForm(toCells(a));
                case 17: {
                    int next = toCells(a);
                    int before = toBits(end);
                    end = next;
                    return before;
                }
                case 18:
                    return canEnd(pegs) ? 1 : 0;
                case 19:
                    return ways(pegs, new HashMap<>());
                case 20:
                    for (int[] jump : jumpsFrom(pegs)) {
                        if (canEnd(after(pegs, jump))) {
                            return code(jump);
                        }
                    }
                    throw new NoSuchElementException();
                case 21: {
                    int[] jump = find(pegs, cellAt(a), cellAt(b));
                    need(jump != null, new UnsupportedOperationException());
                    return canEnd(pegs) && !canEnd(after(pegs, jump)) ? 1 : 0;
                }
                default:
                    return laterCall(call, a, b);
            }
        }

        private long laterCall(int call, int a, int b) {
            switch (call) {
                case 22:
                    return reach(pegs).size();
                case 23: {
                    int count = 0;
                    for (int set : reach(pegs)) {
                        count += jumpsFrom(set).isEmpty() ? 1 : 0;
                    }
                    return count;
                }
                case 24: {
                    int least = 25;
                    for (int set : reach(pegs)) {
                        least = Math.min(least, Integer.bitCount(set));
                    }
                    return least;
                }
                case 25: {
                    need(cells().size() <= 10, new UnsupportedOperationException());
                    need(canEnd(pegs), new NoSuchElementException());
                    return sweepsLeft(pegs, -1, new HashMap<>());
                }
                case 26: {
                    int least = 25;
                    for (int set : reach(pegs)) {
                        for (int cell = 0; cell < 25; cell++) {
                            least = has(set, cell) ? Math.min(least, cell / 5) : least;
                        }
                    }
                    need(least < 25, new NoSuchElementException());
                    return least;
                }
                case 27: {
                    int cell = cellAt(a);
                    need(b >= -99 && b <= 99, new IllegalArgumentException());
                    int before = weights[cell];
                    weights[cell] = b;
                    return before;
                }
                case 28:
                    return sum(toCells(a));
                case 29:
                    return fault() == null ? 1 : 0;
                case 30:
                    need(fault() != null, new NoSuchElementException());
                    return code(fault());
                case 31:
                    return (a % 2 == 0 ? isBarredByColours() : fault() == null && sum(end) > sum(pegs)) ? 1 : 0;
                case 32: {
                    int cell = cellAt(a);
                    need(b == 0 || b == 1, new IllegalArgumentException());
                    return colour(cell, b);
                }
                case 33:
                    need(a == 0 || a == 1, new IllegalArgumentException());
                    return isFit(a) ? 1 : 0;
                case 34:
                    return value(pegs, new HashMap<>());
                case 35: {
                    Map<Integer, Integer> memo = new HashMap<>();
                    for (int[] jump : jumpsFrom(pegs)) {
                        if (value(after(pegs, jump), memo) == 0) {
                            return code(jump);
                        }
                    }
                    throw new NoSuchElementException();
                }
                case 36: {
                    int cell = cellAt(a);
                    need(told.size() < 12, new IllegalStateException());
                    told.add(cell);
                    return told.size();
                }
                case 37: {
                    need(faultAt() < 0, new UnsupportedOperationException());
                    int count = told.size() - 1;
                    for (int i = 1; i < told.size(); i++) {
                        make(find(pegs, told.get(i - 1), told.get(i)));
                    }
                    told.clear();
                    return count;
                }
                case 38:
                    need(faultAt() >= 0, new NoSuchElementException());
                    return faultAt();
                case 39: {
                    int count = told.size();
                    told.clear();
                    return count;
                }
                case 40: {
                    long sum = 7;
                    for (int cell : cells()) {
                        sum = (31 * sum + cell) * 31 + weights[cell];
                    }
                    sum = (31 * sum + toBits(pegs)) * 31 + toBits(end);
                    for (int[] jump : made) {
                        sum = 31 * sum + code(jump);
                    }
                    return sum;
                }
                case 41:
                    need(!cells().isEmpty(), new ArithmeticException());
                    return Float.floatToIntBits((float) Integer.bitCount(pegs) / (float) cells().size());
                case 42: {
                    int sum = 0;
                    Set<Integer> all = reach(pegs);
                    for (int set : all) {
                        sum += jumpsFrom(set).size();
                    }
                    return Double.doubleToLongBits((double) sum / (double) all.size());
                }
                default:
                    return 1;
            }
        }

        static void need(boolean holds, RuntimeException otherwise) {
            if (!holds) {
                throw otherwise;
            }
        }
    }

    private static final String[] NAMES = {"setKind", "drill", "fill", "hole", "cell", "lines", "symmetries", "put", "now",
        "mayJump", "jump", "jumps", "jumpAt", "takeBack", "made", "sweeps", "leastForm", "setEnd", "canEnd", "ways", "hint",
        "loses", "reached", "dead", "fewest", "leastSweeps", "highest", "weigh", "weight", "isProof", "fault", "isBarred",
        "colour", "isFit", "value", "winning", "tell", "play", "faultAt", "clear", "checksum", "pegBits", "meanJumps",
        "isSound"};

    private static long bit(boolean holds) {
        return holds ? 1 : 0;
    }

    private static long call(PegshoreHouse house, int call, int a, int b) {
        switch (call) {
            case 0: return house.setKind((char) a);
            case 1: return house.drill(a);
            case 2: return house.fill(a);
            case 3: return house.hole(a);
            case 4: return house.cell(a);
            case 5: return house.lines();
            case 6: return house.symmetries();
            case 7: return house.put(a);
            case 8: return house.now();
            case 9: return bit(house.mayJump(a, b));
            case 10: return house.jump(a, b);
            case 11: return house.jumps();
            case 12: return house.jumpAt(a);
            case 13: return house.takeBack();
            case 14: return house.made();
            case 15: return house.sweeps();
            case 16: return house.leastForm(a);
            case 17: return house.setEnd(a);
            case 18: return bit(house.canEnd());
            case 19: return house.ways();
            case 20: return house.hint();
            case 21: return bit(house.loses(a, b));
            case 22: return house.reached();
            case 23: return house.dead();
            case 24: return house.fewest();
            case 25: return house.leastSweeps();
            case 26: return house.highest();
            case 27: return house.weigh(a, b);
            case 28: return house.weight(a);
            case 29: return bit(house.isProof());
            case 30: return house.fault();
            case 31: return bit(house.isBarred(a % 2 != 0));
            case 32: return house.colour(a, b);
            case 33: return bit(house.isFit(a));
            case 34: return house.value();
            case 35: return house.winning();
            case 36: return house.tell(a);
            case 37: return house.play();
            case 38: return house.faultAt();
            case 39: return house.clear();
            case 40: return house.checksum();
            case 41: return house.pegBits();
            case 42: return Double.doubleToLongBits(house.meanJumps());
            default: return bit(house.isSound());
        }
    }

    private static String answer(PegshoreHouse house, int call, int a, int b) {
        try {
            return Long.toString(call(house, call, a, b));
        } catch (RuntimeException e) {
            return "throws." + e.getClass().getSimpleName();
        }
    }

    private static String due(SlowHouse house, int call, int a, int b) {
        try {
            return Long.toString(house.call(call, a, b));
        } catch (RuntimeException e) {
            return "throws." + e.getClass().getSimpleName();
        }
    }

    /** What a run's calls are chosen with: its house's way, and how many holes it likes to have. */
    private static final class Chooser {
        final Random random;
        final SlowHouse house;
        final int liked;

        Chooser(Random random, SlowHouse house) {
            this.random = random;
            this.house = house;
            this.liked = random.nextInt(14);
        }

        int call() {
            int holes = house.cells().size();
            int roll = random.nextInt(100);
            if (holes < liked && roll < 40) {
                return 1;
            }
            if (roll < 65) {
                return lively();
            }
            int call = random.nextInt(NAMES.length);
            boolean upsets = call == 0 || call == 1 || call == 2;
            return upsets && holes >= liked && random.nextInt(4) != 0 ? 18 + random.nextInt(10) : call;
        }

        /** Calls that keep jumps, rows and ends going. */
        private int lively() {
            if (house.jumpsFrom(house.pegs).isEmpty()) {
                return random.nextInt(3) == 0 ? 13 : 7;
            }
            int fault = house.faultAt();
            if (fault < 0) {
                return new int[] {37, 36, 38, 13}[random.nextInt(4)];
            }
            if (!house.told.isEmpty() && fault < house.told.size() && random.nextInt(3) == 0) {
                return 39;
            }
            return new int[] {10, 36, 36, 36, 17, 20, 19}[random.nextInt(7)];
        }

        int first(int call) {
            if (random.nextInt(25) == 0) {
                return WILD[random.nextInt(WILD.length)];
            }
            int holes = house.cells().size();
            switch (call) {
                case 0:
                    return "std".charAt(random.nextInt(3));
                case 1: case 2: case 3:
                    return cellNear();
                case 7:
                    return random.nextInt(3) == 0 ? random.nextInt(1 << holes) : manyPegs(holes);
                case 16: case 28:
                    return random.nextInt(1 << holes);
                case 17:
                    return likelyEnd(holes);
                case 12:
                    return random.nextInt(4);
                case 31: case 33:
                    return random.nextInt(2);
                case 36:
                    return nextTold(holes);
                default:
                    return random.nextInt(holes + 1);
            }
        }

        /** Half of the runs live in a corner, where holes are close together. */
        private int cellNear() {
            int side = liked <= 9 ? 3 : 4;
            return random.nextInt(6) == 0 ? random.nextInt(25) : random.nextInt(side) * 5 + random.nextInt(side);
        }

        private int manyPegs(int holes) {
            int pegs = (1 << holes) - 1;
            for (int i = 0; i < 2 && holes > 0; i++) {
                pegs &= ~(1 << random.nextInt(holes));
            }
            return pegs;
        }

        private int likelyEnd(int holes) {
            List<Integer> sets = new ArrayList<>(house.reach(house.pegs));
            return random.nextInt(4) == 0 ? random.nextInt(1 << holes) : house.toBits(sets.get(random.nextInt(sets.size())));
        }

        private int nextTold(int holes) {
            if (house.told.isEmpty() && random.nextInt(5) != 0 && !house.jumpsFrom(house.pegs).isEmpty()) {
                List<int[]> jumps = house.jumpsFrom(house.pegs);
                return house.number(jumps.get(random.nextInt(jumps.size()))[0]);
            }
            if (house.told.isEmpty() || random.nextInt(5) == 0) {
                return random.nextInt(holes + 1);
            }
            int set = house.pegs;
            for (int i = 1; i < house.told.size(); i++) {
                int[] jump = house.find(set, house.told.get(i - 1), house.told.get(i));
                set = jump == null ? set : SlowHouse.after(set, jump);
            }
            for (int[] jump : house.jumpsFrom(set)) {
                if (jump[0] == house.told.get(house.told.size() - 1)) {
                    return house.number(jump[2]);
                }
            }
            return random.nextInt(holes + 1);
        }

        /** Jumps are mostly those that can be made, or the one to which the first hole leads. */
        int[] both(int call) {
            int first = first(call);
            int second = random.nextInt(25) == 0 ? WILD[random.nextInt(WILD.length)] : random.nextInt(house.cells().size() + 1);
            List<int[]> jumps = house.jumpsFrom(house.pegs);
            boolean jumping = call == 9 || call == 10 || call == 21;
            if (jumping && !jumps.isEmpty() && random.nextInt(5) != 0) {
                int code = house.code(jumps.get(random.nextInt(jumps.size())));
                return new int[] {code / 100, code % 100};
            }
            if (call == 27) {
                second = random.nextInt(12) == 0 ? random.nextInt(400) - 200 : random.nextInt(7) - 3;
            }
            return new int[] {first, call == 32 ? random.nextInt(3) : second};
        }
    }

    private static void run(int seed) {
        Random random = new Random(seed);
        PegshoreHouse house = new PegshoreHouse();
        SlowHouse slow = new SlowHouse();
        Chooser chooser = new Chooser(random, slow);
        for (int i = 0; i < CALLS; i++) {
            int call = chooser.call();
            int[] arguments = chooser.both(call);
            if (call == 0) {
                arguments[0] = (char) arguments[0];
            }
            String due = due(slow, call, arguments[0], arguments[1]);
            String answer = answer(house, call, arguments[0], arguments[1]);
            TALLY.merge(NAMES[call] + (due.startsWith("throws") ? " " + due : ""), 1, Integer::sum);
            if (!due.equals(answer)) {
                wrong++;
                System.out.println("run " + seed + ", call " + i + ": " + NAMES[call] + " of " + arguments[0] + ", "
                        + arguments[1] + " answered " + answer + ", due is " + due);
                return;
            }
        }
    }

    private static final Map<String, Integer> TALLY = new java.util.TreeMap<>();

    public static void main(String[] args) {
        for (int seed = 0; seed < RUNS; seed++) {
            run(seed);
        }
        if (args.length > 0) {
            TALLY.forEach((name, count) -> System.out.println(name + ": " + count));
        }
        for (String name : NAMES) {
            if (!TALLY.containsKey(name)) {
                wrong++;
                System.out.println("no run had an answer of " + name);
            }
        }
        System.out.println(wrong == 0 ? "all runs are as the slow house's" : wrong + " runs are not");
        if (wrong != 0) {
            System.exit(1);
        }
    }
}
