import java.lang.reflect.Method;
import java.lang.reflect.Modifier;
import java.util.ArrayList;
import java.util.List;
import java.util.NoSuchElementException;
import java.util.Set;
import java.util.TreeSet;

/**
 * Each "Throws" of the document, with the values just outside and those whose int arithmetic wraps around, in the
 * order in which the document names them; each refused call changes nothing.
 */
public final class RefusalsTest extends Checks {
    private static final Class<?> ARGUMENT = IllegalArgumentException.class;
    private static final Class<?> STATE = IllegalStateException.class;
    private static final Class<?> BOUNDS = IndexOutOfBoundsException.class;
    private static final Class<?> UNSUPPORTED = UnsupportedOperationException.class;
    private static final Class<?> NO_ELEMENT = NoSuchElementException.class;
    private static final Class<?> ARITHMETIC = ArithmeticException.class;

    /** Cells that are none; shifts by 32, 57 and -32 wrap around to the cells 0 and 25. */
    private static final int[] NO_CELLS = {-1, 25, 26, 31, 32, 57, -32, -7, Integer.MIN_VALUE, Integer.MAX_VALUE};
    /** The houses and how many holes each has. */
    private static final Recipe[] HOUSES = {RefusalsTest::bare, RefusalsTest::game, RefusalsTest::eleven,
        RefusalsTest::full};
    private static final int[] HOLES = {0, 10, 11, 13};
    private static final Set<String> REFUSED = new TreeSet<>();

    private static PegshoreHouse bare() {
        return new PegshoreHouse();
    }

    /** Ten holes in the midst of all: a jump made, a row told that can be played, an end and weights. */
    private static PegshoreHouse game() {
        PegshoreHouse house = house('t', 0b01011_01011, TWO_ROWS);
        house.setEnd(0b10000_10000);
        house.weigh(0, -99);
        house.weigh(4, 7);
        house.weigh(9, 99);
        house.jump(5, 7);
        house.tell(0);
        house.tell(2);
        house.tell(4);
        return house;
    }

    private static PegshoreHouse eleven() {
        PegshoreHouse house = game();
        house.drill(24);
        house.setEnd(0b10000_10000);
        house.jump(7, 9);
        house.tell(0);
        house.tell(2);
        return house;
    }

    /** All 13 holes and all 12 holes of a row, with a jump made; the middle hole is the number 6. */
    private static PegshoreHouse full() {
        PegshoreHouse house = diamond('d', 8191 - (1 << 6));
        house.setEnd(1 << 6);
        for (int hole = 0; hole < 13; hole++) {
            house.weigh(hole, hole * 10 - 60);
        }
        house.jump(0, 6);
        for (int i = 0; i < 12; i++) {
            house.tell(i);
        }
        return house;
    }

    private static void refused(String method, String when, Recipe recipe, Class<?> want, Call call) {
        REFUSED.add(method + " " + want.getSimpleName());
        thrown(method + " " + when, recipe, want, call);
    }

    /** The hole numbers that are none in a house with so many; some wrap around when shifted by. */
    private static int[] noHoles(int holes) {
        return new int[] {-1, holes, holes + 1, 14, 31, 32, -32, 33, Integer.MIN_VALUE, Integer.MAX_VALUE};
    }

    public static void main(String[] args) {
        kinds();
        drilling();
        filling();
        holesAndCells();
        positions();
        jumpsWithoutHoles();
        jumpsWhoseCodesWrap();
        jumpsThatCannotBe();
        jumpCodes();
        takingBack();
        hints();
        leastSweeps();
        highest();
        weighing();
        faults();
        colouring();
        winning();
        telling();
        playing();
        rowsWithoutFault();
        pegBits();
        eachIsTried();
        finish("each refusal is the document's");
    }

    // Promise 2: if there is no such kind
    private static void kinds() {
        PegshoreHouse house = game();
        long before = house.checksum();
        for (int kind = 0; kind <= Character.MAX_VALUE; kind++) {
            char one = (char) kind;
            if (kind % 256 == 0) {
                house = game();
            }
            if (one != 's' && one != 't' && one != 'd') {
                due("setKind " + kind, answer(house, h -> h.setKind(one)), ARGUMENT.getSimpleName());
            }
        }
        due("checksum after refused kinds", house.checksum(), before);
        char[] near = {0, 'S', 'T', 'D', 'r', 'u', 'c', 'e', 's' + 256, 't' + 256, 'd' + 256, 65535};
        for (char kind : near) {
            for (Recipe recipe : HOUSES) {
                refused("setKind", "" + (int) kind, recipe, ARGUMENT, h -> h.setKind(kind));
            }
        }
    }

    // Promise 3: out of range, then a hole already, then 13 of them
    private static void drilling() {
        for (int cell : NO_CELLS) {
            for (Recipe recipe : HOUSES) {
                refused("drill", "out of range " + cell, recipe, ARGUMENT, h -> h.drill(cell));
            }
        }
        for (int cell : TWO_ROWS) {
            refused("drill", "of a hole " + cell, RefusalsTest::game, UNSUPPORTED, h -> h.drill(cell));
        }
        for (int cell : DIAMOND) {
            refused("drill", "of a hole of 13 " + cell, RefusalsTest::full, UNSUPPORTED, h -> h.drill(cell));
        }
        for (int cell : new int[] {0, 1, 3, 4, 5, 9, 15, 19, 20, 21, 23, 24}) {
            refused("drill", "of a 14th " + cell, RefusalsTest::full, STATE, h -> h.drill(cell));
        }
    }

    // Promise 4: out of range, then no hole
    private static void filling() {
        for (int cell : NO_CELLS) {
            for (Recipe recipe : HOUSES) {
                refused("fill", "out of range " + cell, recipe, ARGUMENT, h -> h.fill(cell));
            }
        }
        for (int cell = 0; cell < 25; cell++) {
            int one = cell;
            refused("fill", "on no holes " + cell, RefusalsTest::bare, UNSUPPORTED, h -> h.fill(one));
        }
        for (int cell : new int[] {5, 9, 15, 24}) {
            refused("fill", "of no hole " + cell, RefusalsTest::game, UNSUPPORTED, h -> h.fill(cell));
        }
        refused("fill", "of no hole 0", RefusalsTest::full, UNSUPPORTED, h -> h.fill(0));
        refused("fill", "of no hole 24", RefusalsTest::full, UNSUPPORTED, h -> h.fill(24));
        refused("fill", "again", RefusalsTest::filledOnce, UNSUPPORTED, h -> h.fill(12));
    }

    private static PegshoreHouse filledOnce() {
        PegshoreHouse house = full();
        house.fill(12);
        return house;
    }

    // Promises 5 and 6: out of range, then no hole there; no such hole
    private static void holesAndCells() {
        for (int cell : NO_CELLS) {
            for (Recipe recipe : HOUSES) {
                refused("hole", "out of range " + cell, recipe, ARGUMENT, h -> h.hole(cell));
            }
        }
        for (int cell : new int[] {5, 9, 15, 24}) {
            refused("hole", "of none " + cell, RefusalsTest::game, NO_ELEMENT, h -> h.hole(cell));
        }
        refused("hole", "of none 0", RefusalsTest::bare, NO_ELEMENT, h -> h.hole(0));
        refused("hole", "of none 24", RefusalsTest::bare, NO_ELEMENT, h -> h.hole(24));
        refused("hole", "of a filled one", RefusalsTest::filledOnce, NO_ELEMENT, h -> h.hole(12));
        for (int i = 0; i < HOUSES.length; i++) {
            for (int hole : noHoles(HOLES[i])) {
                refused("cell", "of none " + hole, HOUSES[i], BOUNDS, h -> h.cell(hole));
            }
        }
    }

    // Promises 9, 18, 19 and 30: a bit is that of no hole
    private static void positions() {
        for (int i = 0; i < HOUSES.length; i++) {
            int first = 1 << HOLES[i];
            for (int pegs : new int[] {first, first + first - 1, first + 1, 1 << 13, 1 << 25, 1 << 30, -1, Integer.MIN_VALUE,
                Integer.MIN_VALUE + 1, Integer.MAX_VALUE}) {
                refused("put", "of " + pegs, HOUSES[i], BOUNDS, h -> h.put(pegs));
                refused("leastForm", "of " + pegs, HOUSES[i], BOUNDS, h -> h.leastForm(pegs));
                refused("setEnd", "of " + pegs, HOUSES[i], BOUNDS, h -> h.setEnd(pegs));
                refused("weight", "of " + pegs, HOUSES[i], BOUNDS, h -> h.weight(pegs));
            }
        }
    }

    private static void refusedPair(Recipe recipe, Class<?> want, int from, int to) {
        String pair = from + " to " + to;
        if (want == BOUNDS) {
            refused("mayJump", pair, recipe, want, h -> h.mayJump(from, to));
        }
        refused("jump", pair, recipe, want, h -> h.jump(from, to));
        refused("loses", pair, recipe, want, h -> h.loses(from, to));
    }

    // Promises 11, 12 and 23: no such hole, for either, ahead of a jump that cannot be made
    private static void jumpsWithoutHoles() {
        for (int i = 0; i < HOUSES.length; i++) {
            for (int none : noHoles(HOLES[i])) {
                refusedPair(HOUSES[i], BOUNDS, none, none);
                refusedPair(HOUSES[i], BOUNDS, none, 0);
                refusedPair(HOUSES[i], BOUNDS, 0, none);
                refusedPair(HOUSES[i], BOUNDS, none, 2);
                refusedPair(HOUSES[i], BOUNDS, HOLES[i] - 1, none);
            }
        }
    }

    /** 100 times the one and the other together are the code of a jump that can be made, by wrapping or carrying. */
    private static void jumpsWhoseCodesWrap() {
        int[][] pairs = {{-1, 102}, {1, -98}, {42949673, -2}, {-42949673, 6}, {85899346, -6}};
        for (int[] pair : pairs) {
            due("the code of " + pair[0] + " and " + pair[1], 100 * pair[0] + pair[1], 2);
            refusedPair(Checks::row, BOUNDS, pair[0], pair[1]);
        }
        due("the jump of this code", row().mayJump(0, 2), true);
        refusedPair(Checks::row, BOUNDS, 3, 102);
        due("the jump of the code 402", row().mayJump(4, 2), true);
    }

    // Promises 12 and 23: the jump cannot be made
    private static void jumpsThatCannotBe() {
        for (int i = 1; i < HOUSES.length; i++) {
            int made = 0;
            for (int from = 0; from < HOLES[i]; from++) {
                for (int to = 0; to < HOLES[i]; to++) {
                    if (HOUSES[i].make().mayJump(from, to)) {
                        made++;
                    } else {
                        refusedPair(HOUSES[i], UNSUPPORTED, from, to);
                    }
                }
            }
            due("jumps that are not refused", made, HOUSES[i].make().jumps());
        }
    }

    // Promise 14: there is none
    private static void jumpCodes() {
        for (Recipe recipe : HOUSES) {
            int jumps = recipe.make().jumps();
            for (int index : new int[] {-1, jumps, jumps + 1, 104, Integer.MIN_VALUE, Integer.MAX_VALUE}) {
                refused("jumpAt", "" + index, recipe, NO_ELEMENT, h -> h.jumpAt(index));
            }
        }
    }

    // Promise 15: there is none, be it that none was made, that all were taken back, or that they are forgotten
    private static void takingBack() {
        refused("takeBack", "of a new house", RefusalsTest::bare, NO_ELEMENT, PegshoreHouse::takeBack);
        List<Call> forgetting = new ArrayList<>();
        forgetting.add(PegshoreHouse::takeBack);
        forgetting.add(h -> h.put(h.now()));
        forgetting.add(h -> h.setKind('t'));
        forgetting.add(h -> h.drill(24));
        forgetting.add(h -> h.fill(14));
        for (int i = 0; i < forgetting.size(); i++) {
            Call one = forgetting.get(i);
            Recipe recipe = () -> {
                PegshoreHouse house = game();
                one.on(house);
                return house;
            };
            refused("takeBack", "behind call " + i, recipe, NO_ELEMENT, PegshoreHouse::takeBack);
        }
    }

    private static Recipe ended(Recipe recipe, int end) {
        return () -> {
            PegshoreHouse house = recipe.make();
            house.setEnd(end);
            return house;
        };
    }

    // Promise 22: there is none
    private static void hints() {
        refused("hint", "of a new house", RefusalsTest::bare, NO_ELEMENT, PegshoreHouse::hint);
        refused("hint", "to the end of now", ended(Checks::row, 27), NO_ELEMENT, PegshoreHouse::hint);
        refused("hint", "to no pegs", ended(RefusalsTest::game, 0), NO_ELEMENT, PegshoreHouse::hint);
        refused("hint", "to all pegs", ended(RefusalsTest::game, 1023), NO_ELEMENT, PegshoreHouse::hint);
        refused("hint", "back", ended(RefusalsTest::game, 0b01011_01011), NO_ELEMENT, PegshoreHouse::hint);
        refused("hint", "without jumps", ended(() -> house('s', 1, ROW), 4), NO_ELEMENT, PegshoreHouse::hint);
    }

    // Promise 27: more than 10 holes, then that the end cannot be come to
    private static void leastSweeps() {
        for (Recipe recipe : new Recipe[] {RefusalsTest::eleven, RefusalsTest::full}) {
            int now = recipe.make().now();
            for (int end : new int[] {now, 0, 1, recipe.make().setEnd(0)}) {
                refused("leastSweeps", "of many to " + end, ended(recipe, end), UNSUPPORTED, PegshoreHouse::leastSweeps);
            }
        }
        for (int end : new int[] {0, 1, 1023, 0b01011_01011}) {
            Recipe ten = ended(RefusalsTest::game, end);
            refused("leastSweeps", "of ten to " + end, ten, NO_ELEMENT, PegshoreHouse::leastSweeps);
        }
        due("leastSweeps of ten holes", game().leastSweeps(), 2);
    }

    // Promise 28: no peg is there
    private static void highest() {
        refused("highest", "of no holes", RefusalsTest::bare, NO_ELEMENT, PegshoreHouse::highest);
        refused("highest", "of no pegs", () -> house('s', 0, ROW), NO_ELEMENT, PegshoreHouse::highest);
        refused("highest", "of no pegs in 13", () -> diamond('d', 0), NO_ELEMENT, PegshoreHouse::highest);
    }

    // Promise 29: no such hole, then out of range
    private static void weighing() {
        int[] none = {-100, 100, -101, 101, 156, -157, Integer.MIN_VALUE, Integer.MAX_VALUE};
        for (int i = 0; i < HOUSES.length; i++) {
            for (int hole : noHoles(HOLES[i])) {
                refused("weigh", "of none " + hole, HOUSES[i], BOUNDS, h -> h.weigh(hole, 1));
                refused("weigh", "of none and out of range " + hole, HOUSES[i], BOUNDS, h -> h.weigh(hole, 100));
            }
            for (int weight : none) {
                int last = HOLES[i] - 1;
                if (last >= 0) {
                    refused("weigh", "by " + weight, HOUSES[i], ARGUMENT, h -> h.weigh(0, weight));
                    refused("weigh", "of the last by " + weight, HOUSES[i], ARGUMENT, h -> h.weigh(last, weight));
                }
            }
        }
    }

    // Promise 32: the weights are a proof
    private static void faults() {
        refused("fault", "of no holes", RefusalsTest::bare, NO_ELEMENT, PegshoreHouse::fault);
        refused("fault", "of no weights", Checks::row, NO_ELEMENT, PegshoreHouse::fault);
        refused("fault", "of like weights", () -> weighed(1, 1, 2, 3, 5), NO_ELEMENT, PegshoreHouse::fault);
        refused("fault", "of no jumps", () -> house('s', 3, 0, 1), NO_ELEMENT, PegshoreHouse::fault);
    }

    // Promises 34 and 35: no such hole, then out of range
    private static void colouring() {
        for (int i = 0; i < HOUSES.length; i++) {
            for (int hole : noHoles(HOLES[i])) {
                refused("colour", "of none " + hole, HOUSES[i], BOUNDS, h -> h.colour(hole, 0));
                refused("colour", "of none and out of range " + hole, HOUSES[i], BOUNDS, h -> h.colour(hole, 2));
            }
            for (int number : new int[] {-1, 2, 3, Integer.MIN_VALUE, Integer.MAX_VALUE}) {
                refused("isFit", "of " + number, HOUSES[i], ARGUMENT, h -> h.isFit(number));
                if (HOLES[i] > 0) {
                    refused("colour", "by " + number, HOUSES[i], ARGUMENT, h -> h.colour(0, number));
                }
            }
        }
    }

    // Promise 37: there is none
    private static void winning() {
        refused("winning", "of no holes", RefusalsTest::bare, NO_ELEMENT, PegshoreHouse::winning);
        refused("winning", "without jumps", () -> house('s', 1, ROW), NO_ELEMENT, PegshoreHouse::winning);
        refused("winning", "of the value 0 with jumps", Checks::row, NO_ELEMENT, PegshoreHouse::winning);
    }

    // Promise 38: no such hole, then 12 are told
    private static void telling() {
        for (int i = 0; i < HOUSES.length; i++) {
            for (int hole : noHoles(HOLES[i])) {
                refused("tell", "none " + hole, HOUSES[i], BOUNDS, h -> h.tell(hole));
            }
        }
        refused("tell", "a 13th", RefusalsTest::full, STATE, h -> h.tell(0));
        refused("tell", "a 13th, the last", RefusalsTest::full, STATE, h -> h.tell(12));
        refused("tell", "a 13th of a row", Checks::fullRow, STATE, h -> h.tell(4));
    }

    // Promise 39: the row has a fault
    private static void playing() {
        refused("play", "no row on no holes", RefusalsTest::bare, UNSUPPORTED, PegshoreHouse::play);
        refused("play", "no row", Checks::row, UNSUPPORTED, PegshoreHouse::play);
        refused("play", "one hole", () -> told(27, 0), UNSUPPORTED, PegshoreHouse::play);
        refused("play", "one hole without a peg", () -> told(27, 2), UNSUPPORTED, PegshoreHouse::play);
        refused("play", "the first one without a peg", () -> told(0b00110, 0, 2), UNSUPPORTED, PegshoreHouse::play);
        refused("play", "a fault at the second", () -> told(27, 0, 3), UNSUPPORTED, PegshoreHouse::play);
        refused("play", "a fault at the last", () -> told(0b01011, 0, 2, 4, 4), UNSUPPORTED, PegshoreHouse::play);
        refused("play", "a full row", RefusalsTest::full, UNSUPPORTED, PegshoreHouse::play);
    }

    // Promise 40: it has none
    private static void rowsWithoutFault() {
        refused("faultAt", "of one jump", () -> told(27, 0, 2), NO_ELEMENT, PegshoreHouse::faultAt);
        refused("faultAt", "of two jumps", () -> told(0b01011, 0, 2, 4), NO_ELEMENT, PegshoreHouse::faultAt);
        refused("faultAt", "in a game", RefusalsTest::game, NO_ELEMENT, PegshoreHouse::faultAt);
    }

    // Promise 43: there are no holes
    private static void pegBits() {
        refused("pegBits", "of a new house", RefusalsTest::bare, ARITHMETIC, PegshoreHouse::pegBits);
        refused("pegBits", "of a house filled again", RefusalsTest::filledWhole, ARITHMETIC, PegshoreHouse::pegBits);
    }

    private static PegshoreHouse filledWhole() {
        PegshoreHouse house = full();
        for (int cell : DIAMOND) {
            house.fill(cell);
        }
        return house;
    }

    private static void eachIsTried() {
        for (Method method : PegshoreHouse.class.getDeclaredMethods()) {
            if (Modifier.isPublic(method.getModifiers())) {
                for (Class<?> thrown : method.getExceptionTypes()) {
                    String pair = method.getName() + " " + thrown.getSimpleName();
                    due(pair + " is tried", REFUSED.contains(pair), true);
                }
            }
        }
    }
}
