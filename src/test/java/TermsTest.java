import java.lang.reflect.InvocationTargetException;
import java.lang.reflect.Method;
import java.lang.reflect.Modifier;
import java.util.HashSet;
import java.util.Set;

/**
 * What the paragraphs of "Terms" and "What it is" say of several calls together: that each line of each kind counts for
 * all of them, that a call changes what it says and nothing else, and how their answers hang together.
 */
public final class TermsTest extends Checks {
    private static final char[] KINDS = {'s', 't', 'd'};
    private static final int[] WEIGHTS = {-20, -10, 0, 10, 20};
    private static final int[] CORNERS = {1, 0, 1, 0, 0, 0, 1, 0, 1};
    private static final Set<String> CHANGES = Set.of("setKind", "drill", "fill", "put", "jump", "takeBack", "setEnd",
            "weigh", "tell", "play", "clear");

    public static void main(String[] args) {
        squareAtFirst();
        housesApart();
        linesForAll();
        kindsInTurn();
        askingChangesNothing();
        lateAsEarly();
        thereAndBack();
        forgottenAlike();
        countedForms();
        formsOfForms();
        playedOut();
        hangingTogether();
        finish("the terms hold together");
    }

    // "It is 's' square, where pegs jump along rows and columns, as at first": no kind was ever set
    private static void squareAtFirst() {
        PegshoreHouse house = new PegshoreHouse();
        for (int cell : SQUARE) {
            house.drill(cell);
        }
        due("lines of a square at first", house.lines(), 12);
        due("symmetries of a square at first", house.symmetries(), 2);
        house.put(1 | 1 << 4);
        due("jumps of a square at first, right and down", house.jumps(), 0);
        house.put(1 << 2 | 1 << 4);
        due("jumps of a square at first, left and down", house.jumps(), 0);
        house.put(1 | 1 << 1 | 1 << 3);
        due("jumps of a square at first", house.jumps(), 2);
    }

    // "Creates a house": what is done in one is not done in another
    private static void housesApart() {
        PegshoreHouse before = new PegshoreHouse();
        PegshoreHouse one = midst();
        PegshoreHouse other = diamond('d', 8187);
        PegshoreHouse after = new PegshoreHouse();
        due("reached of another house", other.reached() > one.reached(), true);
        due("a house in the midst of others", picture(one), picture(midst()));
        due("a house made ahead of others", picture(before), picture(new PegshoreHouse()));
        due("a house made behind others", picture(after), picture(new PegshoreHouse()));
    }

    /** Pegs in the first two of three cells, whether a jump leads over the second one or not. */
    private static void dueOfLine(String what, PegshoreHouse house, boolean leads) {
        house.put(0b011);
        house.setEnd(0b100);
        house.weigh(2, 1);
        due("lines" + what, house.lines(), leads ? 2 : 0);
        due("mayJump" + what, house.mayJump(0, 2), leads);
        due("jumps" + what, house.jumps(), leads ? 1 : 0);
        due("jumpAt" + what, answer(house, h -> h.jumpAt(0)), leads ? 2 : "NoSuchElementException");
        due("canEnd" + what, house.canEnd(), leads);
        due("ways" + what, house.ways(), leads ? 1L : 0L);
        due("hint" + what, answer(house, PegshoreHouse::hint), leads ? 2 : "NoSuchElementException");
        due("loses" + what, answer(house, h -> h.loses(0, 2)), leads ? false : "UnsupportedOperationException");
        due("reached" + what, house.reached(), leads ? 2 : 1);
        due("dead" + what, house.dead(), 1);
        due("fewest" + what, house.fewest(), leads ? 1 : 2);
        due("leastSweeps" + what, answer(house, PegshoreHouse::leastSweeps), leads ? 1 : "NoSuchElementException");
        due("isProof" + what, house.isProof(), !leads);
        due("fault" + what, answer(house, PegshoreHouse::fault), leads ? 2 : "NoSuchElementException");
        due("isBarred by weights" + what, house.isBarred(true), !leads);
        due("value" + what, house.value(), leads ? 1 : 0);
        due("winning" + what, answer(house, PegshoreHouse::winning), leads ? 2 : "NoSuchElementException");
        due("meanJumps" + what, house.meanJumps(), leads ? 0.5 : 0.0);
        house.tell(0);
        house.tell(2);
        due("faultAt" + what, answer(house, PegshoreHouse::faultAt), leads ? "NoSuchElementException" : 1);
        due("play" + what, answer(house, PegshoreHouse::play), leads ? 1 : "UnsupportedOperationException");
        due("now behind play" + what, house.now(), leads ? 0b100 : 0b011);
        due("sweeps behind play" + what, house.sweeps(), leads ? 1 : 0);
        due("takeBack" + what, answer(house, PegshoreHouse::takeBack), leads ? 2 : "NoSuchElementException");
        due("now behind takeBack" + what, house.now(), 0b011);
    }

    /** Whether the kind has the line: 0 along a row, 1 along a column, 2 down and left, 3 down and right. */
    private static boolean leads(char kind, int line) {
        return line < 2 || line == 2 && kind != 's' || line == 3 && kind == 'd';
    }

    private static final int[][] LINES = {{12, 13, 14}, {12, 17, 22}, {12, 16, 20}, {12, 18, 24}};

    // "'s' square, where pegs jump along rows and columns ... 't' triangle, where they also jump along lines that go a row
    // down and a column to the left, or 'd', where they also jump along both these lines and those ... to the right"
    private static void linesForAll() {
        for (char kind : KINDS) {
            for (int line = 0; line < LINES.length; line++) {
                dueOfLine(" of " + kind + " along " + line, house(kind, 0, LINES[line]), leads(kind, line));
            }
        }
    }

    // "Sets the kind of the board": of one board in turn, with all that was asked of it before
    private static void kindsInTurn() {
        char[] turns = {'s', 'd', 't', 's', 't', 'd', 's'};
        for (int line = 0; line < LINES.length; line++) {
            PegshoreHouse house = house('s', 0, LINES[line]);
            for (char kind : turns) {
                house.setKind(kind);
                dueOfLine(" set to " + kind + " along " + line, house, leads(kind, line));
            }
        }
        PegshoreHouse square = house('s', 0, SQUARE);
        boolean[][] fit = {{true, true}, {false, false}, {false, true}, {true, true}, {false, true}, {false, false},
            {true, true}};
        for (int i = 0; i < turns.length; i++) {
            square.setKind(turns[i]);
            due("isFit 0 set to " + turns[i], square.isFit(0), fit[i][0]);
            due("isFit 1 set to " + turns[i], square.isFit(1), fit[i][1]);
        }
        PegshoreHouse cross = house('s', 0, 6, 8, 12, 16, 18);
        int[] symmetries = {8, 8, 4, 8, 4, 8, 8};
        int[] forms = {1, 1, 2, 1, 2, 1, 1};
        for (int i = 0; i < turns.length; i++) {
            cross.setKind(turns[i]);
            due("symmetries set to " + turns[i], cross.symmetries(), symmetries[i]);
            due("leastForm set to " + turns[i], cross.leastForm(2), forms[i]);
        }
    }

    private static void askAll(PegshoreHouse house, Method method, int first, int second) {
        Class<?>[] types = method.getParameterTypes();
        Object[] arguments = new Object[types.length];
        for (int i = 0; i < types.length; i++) {
            int number = i == 0 ? first : second;
            arguments[i] = types[i] == boolean.class ? (Object) (number != 0) : (Object) number;
        }
        try {
            method.invoke(house, arguments);
        } catch (InvocationTargetException e) {
            due("a refusal of " + method.getName(), e.getCause() instanceof RuntimeException, true);
        } catch (IllegalAccessException e) {
            due("a call of " + method.getName(), e, "an answer");
        }
    }

    /** All that a house keeps, told by calls that change it alone, so that no other call's change is hidden by it. */
    private static String kept(PegshoreHouse house) {
        StringBuilder text = new StringBuilder();
        text.append(house.clear()).append(' ').append(house.setEnd(0)).append(' ');
        for (int i = 0; i < 13; i++) {
            int hole = i;
            text.append(answer(house, PegshoreHouse::takeBack)).append(' ');
            text.append(answer(house, h -> h.weigh(hole, 0))).append(' ');
        }
        text.append(house.put(0)).append(' ').append(house.setKind('s'));
        for (int i = 0; i < 25; i++) {
            int cell = i;
            text.append(' ').append(answer(house, h -> h.fill(cell)));
        }
        return text.toString();
    }

    /** A slanted board in the midst of all, whose row told has a fault, with jumps made and weights that are a proof. */
    private static PegshoreHouse slanted() {
        PegshoreHouse house = house('t', 0b010_110_111, SQUARE);
        for (int hole = 0; hole < CORNERS.length; hole++) {
            house.weigh(hole, CORNERS[hole]);
        }
        house.setEnd(0b100_000_001);
        house.jump(house.jumpAt(0) / 100, house.jumpAt(0) % 100);
        house.tell(1);
        house.tell(1);
        house.tell(0);
        return house;
    }

    private static PegshoreHouse thirteen() {
        PegshoreHouse house = diamond('d', 8191 - (1 << 6));
        house.setEnd(1 << 6);
        house.weigh(12, -99);
        house.jump(0, 6);
        house.tell(12);
        return house;
    }

    private static final Recipe[] HOUSES = {Checks::midst, TermsTest::slanted, TermsTest::thirteen, PegshoreHouse::new};

    private static void askedIsAsNot(Method method, int first, int second) {
        for (Recipe recipe : HOUSES) {
            PegshoreHouse asked = recipe.make();
            askAll(asked, method, first, second);
            due("what is kept behind " + method.getName(), kept(asked), kept(recipe.make()));
            PegshoreHouse played = recipe.make();
            askAll(played, method, first, second);
            PegshoreHouse want = recipe.make();
            due("play behind " + method.getName(), answer(played, PegshoreHouse::play), answer(want, PegshoreHouse::play));
            due("what is kept behind " + method.getName() + " and play", kept(played), kept(want));
        }
    }

    // "Nothing is promised beyond the answers and state changes described above": each call of the face that tells of no
    // change leaves all as it is, whatever it answers
    private static void askingChangesNothing() {
        int asked = 0;
        for (Method method : PegshoreHouse.class.getDeclaredMethods()) {
            if (Modifier.isPublic(method.getModifiers()) && !CHANGES.contains(method.getName())) {
                asked++;
                for (int first : new int[] {0, 1, 2, 4, 12, 31}) {
                    for (int second : new int[] {0, 1, 4}) {
                        askedIsAsNot(method, first, second);
                    }
                }
            }
        }
        due("calls that tell of no change", asked, 44 - CHANGES.size());
    }

    /** The row board of five holes, weighed, with an end and a row told, but with no jump made. */
    private static PegshoreHouse begun(int end, int[] weights, int... told) {
        PegshoreHouse house = house('s', 0b01011, ROW);
        for (int hole = 0; hole < weights.length; hole++) {
            house.weigh(hole, weights[hole]);
        }
        house.setEnd(end);
        for (int hole : told) {
            house.tell(hole);
        }
        return house;
    }

    private static void alike(String what, Recipe recipe, Call call, Recipe want) {
        PegshoreHouse house = recipe.make();
        call.on(house);
        due("the house behind " + what, picture(house), picture(want.make()));
        PegshoreHouse asked = recipe.make();
        for (Call one : new Call[] {PegshoreHouse::hint, PegshoreHouse::winning, PegshoreHouse::leastSweeps}) {
            answer(asked, one);
        }
        call.on(asked);
        due("the asked house behind " + what, picture(asked), picture(want.make()));
    }

    private static Recipe then(Recipe recipe, Call call) {
        return () -> {
            PegshoreHouse house = recipe.make();
            call.on(house);
            return house;
        };
    }

    // "Sets the end", "sets a weight", "tells the next hole", "takes the row away": behind jumps as ahead of them
    private static void lateAsEarly() {
        Recipe plain = then(() -> begun(0b10000, WEIGHTS, 2, 4), h -> h.jump(0, 2));
        int[] other = {-20, -10, 0, 99, 20};
        alike("setEnd", plain, h -> h.setEnd(0b00010), then(() -> begun(0b00010, WEIGHTS, 2, 4), h -> h.jump(0, 2)));
        alike("weigh", plain, h -> h.weigh(3, 99), then(() -> begun(0b10000, other, 2, 4), h -> h.jump(0, 2)));
        alike("clear", plain, PegshoreHouse::clear, then(() -> begun(0b10000, WEIGHTS), h -> h.jump(0, 2)));
        alike("tell", then(() -> begun(0b10000, WEIGHTS, 2), h -> h.jump(0, 2)), h -> h.tell(4), plain);
        alike("jump", () -> begun(0b10000, WEIGHTS, 2, 4), h -> h.jump(0, 2), plain);
        alike("play of one jump", () -> begun(0b10000, WEIGHTS, 0, 2), PegshoreHouse::play,
                then(() -> begun(0b10000, WEIGHTS), h -> h.jump(0, 2)));
        alike("play of two jumps", () -> begun(0b10000, WEIGHTS, 0, 2, 4), PegshoreHouse::play,
                then(() -> begun(0b10000, WEIGHTS), h -> h.jump(0, 2) + h.jump(2, 4)));
    }

    // "To take a jump back makes the position, and the jumps made, as they were ahead of it; all else stays"
    private static void thereAndBack() {
        Recipe plain = then(() -> begun(0b10000, WEIGHTS, 2, 4), h -> h.jump(0, 2));
        alike("jump and takeBack", plain, h -> h.jump(2, 4) + h.takeBack(), plain);
        alike("play and takeBack", plain, h -> h.play() + h.takeBack() + h.tell(2) + h.tell(4), plain);
        alike("two of takeBack", plain, h -> h.jump(2, 4) + h.takeBack() + h.takeBack(), () -> begun(0b10000, WEIGHTS, 2, 4));
        alike("takeBack and the same jump", plain, h -> h.takeBack() + h.jump(0, 2), plain);
    }

    // "jumps made are forgotten, the row told stays"; "jumps made and the row told are forgotten"; "the end has no peg"
    private static void forgottenAlike() {
        Recipe plain = then(() -> begun(0b10000, WEIGHTS, 2, 4), h -> h.jump(0, 2));
        Recipe put = then(() -> begun(0b10000, WEIGHTS, 2, 4), h -> h.put(0b01100));
        Recipe bare = then(() -> begun(0b10000, WEIGHTS), h -> h.put(0b01100));
        Recipe endless = then(() -> begun(0, WEIGHTS), h -> h.put(0b01100));
        alike("put of the position of now", plain, h -> h.put(h.now()), put);
        alike("setKind to the same", plain, h -> h.setKind('s'), bare);
        alike("setKind to another and back", plain, h -> h.setKind('d') + h.setKind('s'), bare);
        alike("drill and fill", plain, h -> h.drill(12) + h.fill(12), endless);
        alike("drill and fill behind a weight", plain, h -> h.drill(24) + h.weigh(5, 9) + h.put(44) + h.fill(24), endless);
        alike("fill and drill", plain, h -> h.fill(2) + h.drill(2) + h.put(0b01100), endless);
    }

    private static int formsOf(char kind) {
        Set<Integer> forms = new HashSet<>();
        PegshoreHouse house = diamond(kind, 0);
        for (int pegs = 0; pegs < 8192; pegs++) {
            if (pegs % 256 == 0) {
                house = diamond(kind, 0);
            }
            forms.add(house.leastForm(pegs));
        }
        return forms.size();
    }

    // "The least form of a position is the least number that the bits of it are behind a symmetry": as many as Burnside
    // counts them by the cycles of the eight symmetries, or of the four that keep the slanted lines
    private static void countedForms() {
        int eight = (8192 + 2 * 16 + 128 + 2 * 512 + 2 * 256) / 8;
        int four = (8192 + 128 + 2 * 256) / 4;
        due("forms of the square diamond", formsOf('s'), eight);
        due("forms of the triangle diamond", formsOf('t'), four);
        due("forms of the double diamond", formsOf('d'), eight);
    }

    private static void formsOfForms() {
        for (char kind : KINDS) {
            PegshoreHouse house = house(kind, 0, SQUARE);
            for (int pegs = 0; pegs < 512; pegs += 3) {
                int least = house.leastForm(pegs);
                due("leastForm is not above " + pegs, least <= pegs, true);
                due("pegs of the leastForm of " + pegs, Integer.bitCount(least), Integer.bitCount(pegs));
                due("leastForm of the leastForm of " + pegs, house.leastForm(least), least);
            }
        }
    }

    // "a hint keeps the end": all hints in a row lead to it, and no fewer jumps than pegs are taken
    private static void playedOut() {
        for (char kind : KINDS) {
            for (int pegs = 1; pegs < 512; pegs += 2) {
                PegshoreHouse house = house(kind, pegs, SQUARE);
                house.setEnd(1 << 2);
                if (house.canEnd()) {
                    int jumps = Integer.bitCount(pegs) - 1;
                    for (int i = 0; i < jumps; i++) {
                        int code = house.hint();
                        due("loses by a hint", house.loses(code / 100, code % 100), false);
                        house.jump(code / 100, code % 100);
                    }
                    due("now behind the hints of " + pegs, house.now(), 1 << 2);
                    due("jumps made by the hints of " + pegs, house.made(), jumps);
                }
            }
        }
    }

    /** What is said of the position of now, told by what is said of those behind its jumps. */
    private static final class Behind {
        long ways;
        int hint = -1;
        int winning = -1;
        int values;
        int fewest = 25;
        int highest = 25;
        int dead;

        void add(PegshoreHouse house, int code) {
            ways += house.ways();
            hint = hint < 0 && house.canEnd() ? code : hint;
            winning = winning < 0 && house.value() == 0 ? code : winning;
            values |= 1 << house.value();
            fewest = Math.min(fewest, house.fewest());
            highest = Math.min(highest, house.highest());
            dead += house.dead();
        }
    }

    private static void dueOfPosition(String what, PegshoreHouse house) {
        int now = house.now();
        boolean there = isEnd(house);
        boolean canEnd = house.canEnd();
        boolean proof = house.isProof();
        int weight = house.weight(now);
        Behind behind = new Behind();
        int jumps = house.jumps();
        int last = -1;
        for (int i = 0; i < jumps; i++) {
            int code = house.jumpAt(i);
            due("codes go up" + what, code > last, true);
            last = code;
            boolean loses = house.loses(code / 100, code % 100);
            house.jump(code / 100, code % 100);
            due("loses" + what, loses, canEnd && !house.canEnd());
            due("a weight that no jump makes more" + what, proof && house.weight(house.now()) > weight, false);
            behind.add(house, code);
            due("takeBack" + what, house.takeBack(), code);
        }
        due("now with all taken back" + what, house.now(), now);
        due("ways" + what, house.ways(), behind.ways + (there ? 1 : 0));
        due("canEnd" + what, canEnd, house.ways() > 0);
        due("hint" + what, answer(house, PegshoreHouse::hint), behind.hint < 0 ? "NoSuchElementException" : behind.hint);
        due("value" + what, house.value(), Integer.numberOfTrailingZeros(~behind.values));
        due("winning" + what, answer(house, PegshoreHouse::winning),
                behind.winning < 0 ? "NoSuchElementException" : behind.winning);
        due("a value to win by" + what, behind.winning >= 0, house.value() > 0);
        due("fewest" + what, house.fewest(), Math.min(behind.fewest, Integer.bitCount(now)));
        due("highest" + what, house.highest(), Math.min(behind.highest, house.cell(Integer.numberOfTrailingZeros(now)) / 5));
        due("dead beyond those behind jumps" + what, house.dead() > behind.dead, jumps == 0);
        due("a barred end that can be" + what, canEnd && (house.isBarred(true) || house.isBarred(false)), false);
    }

    private static boolean isEnd(PegshoreHouse house) {
        int end = house.setEnd(0);
        house.setEnd(end);
        return end == house.now();
    }

    private static void hangTogether(char kind, int[] cells, int[] weights, int step) {
        int all = 1 << cells.length;
        for (int pegs = 1; pegs < all; pegs += step) {
            for (int end = pegs * 7 % 5; end < all; end += step * 3) {
                PegshoreHouse house = house(kind, pegs, cells);
                for (int hole = 0; hole < weights.length; hole++) {
                    house.weigh(hole, weights[hole]);
                }
                house.setEnd(end);
                dueOfPosition(" of " + kind + " " + cells.length + " " + pegs + " to " + end, house);
            }
        }
    }

    // "a problem asks for an end, which all ways there are come to or do not; a hint keeps the end; weights that no jump
    // makes more, and colours in threes, tell that an end cannot be; two who play each other have values"
    private static void hangingTogether() {
        hangTogether('s', ROW, new int[] {1, 1, 2, 1, 1}, 1);
        for (char kind : KINDS) {
            hangTogether(kind, SQUARE, CORNERS, 11);
        }
        hangTogether('d', DIAMOND, new int[] {5, -3}, 509);
    }
}
