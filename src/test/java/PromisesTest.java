import java.util.NoSuchElementException;

/** At least one check a promise, with answers worked out by hand from the document. */
public final class PromisesTest extends Checks {
    /** A row board in the midst of all: two jumps made, a row told, an end and weights. */
    private static PegshoreHouse busy() {
        PegshoreHouse house = row();
        house.jump(0, 2);
        house.jump(3, 1);
        house.tell(1);
        house.tell(3);
        house.setEnd(4);
        house.weigh(2, 7);
        return house;
    }

    public static void main(String[] args) {
        newObject();
        kinds();
        drillAndFill();
        holesAndCells();
        linesAndSymmetries();
        positions();
        jumping();
        jumpCodes();
        takingBack();
        sweeping();
        leastForms();
        ends();
        hintsAndLosses();
        reaching();
        leastSweeps();
        highest();
        weights();
        barring();
        colours();
        duels();
        telling();
        playing();
        faultsOfRows();
        figures();
        soundness();
        finish("all promises are kept");
    }

    // Promise 1
    private static void newObject() {
        PegshoreHouse house = new PegshoreHouse();
        due("lines of a new house", house.lines(), 0);
        due("now of a new house", house.now(), 0);
        due("made of a new house", house.made(), 0);
        due("clear of a new house", house.clear(), 0);
        due("setEnd of a new house", house.setEnd(0), 0);
        due("checksum of a new house", house.checksum(), 6727L);
        due("cell of a new house", answer(house, h -> h.cell(0)), "IndexOutOfBoundsException");
        due("kind of a new house", house.setKind('d'), 's');
    }

    // Promise 2
    private static void kinds() {
        PegshoreHouse house = busy();
        due("setKind", house.setKind('t'), 's');
        due("made after setKind", house.made(), 0);
        due("clear after setKind", house.clear(), 0);
        due("now after setKind", house.now(), 18);
        due("setEnd after setKind", house.setEnd(4), 4);
        due("weight after setKind", house.weight(4), 7);
        house.tell(0);
        house.put(3);
        house.jump(0, 2);
        due("setKind to the same", house.setKind('t'), 't');
        due("made after the same kind", house.made(), 0);
        due("clear after the same kind", house.clear(), 0);
        due("setKind to d", house.setKind('d'), 't');
        for (char kind : new char[] {'x', 'S', 0, 65535}) {
            thrown("setKind of none", PromisesTest::busy, IllegalArgumentException.class, h -> h.setKind(kind));
        }
    }

    // Promises 3 and 4
    private static void drillAndFill() {
        PegshoreHouse house = house('s', 0b101, 1, 3, 5);
        house.weigh(0, 1);
        house.weigh(1, 3);
        house.weigh(2, 5);
        house.tell(1);
        house.setEnd(7);
        due("drill between", house.drill(2), 4);
        due("now after drill", house.now(), 0b1001);
        due("end after drill", house.setEnd(15), 0);
        due("row after drill", house.clear(), 0);
        due("weights after drill", house.weight(1) * 100 + house.weight(4) * 10 + house.weight(8), 135);
        due("weight of the new hole", house.weight(2), 0);
        house.weigh(1, 9);
        house.put(15);
        house.tell(1);
        due("fill", house.fill(2), 3);
        due("now after fill", house.now(), 7);
        due("end after fill", house.setEnd(0), 0);
        due("row after fill", house.clear(), 0);
        due("weights after fill", house.weight(1) * 100 + house.weight(2) * 10 + house.weight(4), 135);
        due("drill again", house.drill(2), 4);
        due("weight of a hole drilled again", house.weight(2), 0);
        due("peg of a hole drilled again", house.now(), 0b1101);
        PegshoreHouse made = busy();
        made.drill(24);
        due("made after drill", made.made(), 0);
        PegshoreHouse less = busy();
        less.fill(0);
        due("made after fill", less.made(), 0);
        due("now after fill of the first", less.now(), 9);
        for (int cell : new int[] {-1, 25, Integer.MIN_VALUE, Integer.MAX_VALUE}) {
            thrown("drill out of range", PromisesTest::busy, IllegalArgumentException.class, h -> h.drill(cell));
            thrown("drill out of range, full", () -> diamond('s', 1), IllegalArgumentException.class, h -> h.drill(cell));
            thrown("fill out of range", PromisesTest::busy, IllegalArgumentException.class, h -> h.fill(cell));
        }
        thrown("drill of a hole", PromisesTest::busy, UnsupportedOperationException.class, h -> h.drill(4));
        thrown("drill of a hole, full", () -> diamond('s', 1), UnsupportedOperationException.class, h -> h.drill(22));
        thrown("drill of a 14th", () -> diamond('s', 1), IllegalStateException.class, h -> h.drill(24));
        thrown("fill of none", PromisesTest::busy, UnsupportedOperationException.class, h -> h.fill(5));
        due("drill of the 13th", house('s', 0, 0, 1, 2, 3, 4, 5, 6, 7, 8, 9, 10, 11).drill(24), 13);
        due("fill and drill when full", diamond('s', 0).fill(2), 12);
    }

    // Promises 5 and 6
    private static void holesAndCells() {
        PegshoreHouse house = house('s', 0, 24, 7, 0);
        due("hole of 0", house.hole(0), 0);
        due("hole of 7", house.hole(7), 1);
        due("hole of 24", house.hole(24), 2);
        due("cell of 1", house.cell(1), 7);
        due("cell of 2", house.cell(2), 24);
        thrown("hole of none", PromisesTest::busy, NoSuchElementException.class, h -> h.hole(24));
        thrown("hole of -1", PromisesTest::busy, IllegalArgumentException.class, h -> h.hole(-1));
        thrown("hole of 25", PromisesTest::busy, IllegalArgumentException.class, h -> h.hole(25));
        thrown("cell of -1", PromisesTest::busy, IndexOutOfBoundsException.class, h -> h.cell(-1));
        thrown("cell of 5", PromisesTest::busy, IndexOutOfBoundsException.class, h -> h.cell(5));
    }

    // Promises 7 and 8
    private static void linesAndSymmetries() {
        due("lines of the square diamond", diamond('s', 0).lines(), 20);
        due("lines of the triangle diamond", diamond('t', 0).lines(), 26);
        due("lines of the double diamond", diamond('d', 0).lines(), 32);
        due("lines with all pegs", diamond('s', 8191).lines(), 20);
        due("lines round a border", house('s', 0, 3, 4, 5).lines(), 0);
        due("lines left and down", house('t', 0, 4, 8, 12).lines(), 2);
        due("lines left and down of a square", house('s', 0, 4, 8, 12).lines(), 0);
        due("lines right and down of a triangle", house('t', 0, 0, 6, 12).lines(), 0);
        due("lines right and down", house('d', 0, 0, 6, 12).lines(), 2);
        due("symmetries of the square diamond", diamond('s', 0).symmetries(), 8);
        due("symmetries of the triangle diamond", diamond('t', 0).symmetries(), 4);
        due("symmetries of the double diamond", diamond('d', 0).symmetries(), 8);
        due("symmetries of no holes", new PegshoreHouse().symmetries(), 8);
        due("symmetries of a row", row().symmetries(), 2);
        due("symmetries of a triangle row", house('t', 0, ROW).symmetries(), 2);
        due("symmetries of a corner", house('s', 0, SQUARE).symmetries(), 2);
        due("symmetries of a corner as a triangle", house('t', 0, SQUARE).symmetries(), 2);
        due("symmetries of a cross of lines", house('t', 0, 6, 8, 12, 16, 18).symmetries(), 4);
        due("symmetries of a pinwheel", house('s', 0, 1, 9, 15, 23).symmetries(), 4);
    }

    // Promises 9 and 10
    private static void positions() {
        PegshoreHouse house = busy();
        due("put", house.put(3), 18);
        due("now after put", house.now(), 3);
        due("made after put", house.made(), 0);
        due("end after put", house.setEnd(4), 4);
        due("row after put", house.clear(), 2);
        due("put of all", house.put(31), 3);
        due("put of 13 pegs", diamond('s', 8191).now(), 8191);
        for (int pegs : new int[] {32, -1, 63, Integer.MIN_VALUE, 1 << 13, 1 << 30}) {
            thrown("put", PromisesTest::busy, IndexOutOfBoundsException.class, h -> h.put(pegs));
            thrown("leastForm", PromisesTest::busy, IndexOutOfBoundsException.class, h -> h.leastForm(pegs));
            thrown("setEnd", PromisesTest::busy, IndexOutOfBoundsException.class, h -> h.setEnd(pegs));
            thrown("weight", PromisesTest::busy, IndexOutOfBoundsException.class, h -> h.weight(pegs));
        }
        thrown("put of 14 bits", () -> diamond('s', 5), IndexOutOfBoundsException.class, h -> h.put(8192));
    }

    // Promises 11 and 12
    private static void jumping() {
        PegshoreHouse house = row();
        due("mayJump right", house.mayJump(0, 2), true);
        due("mayJump left", house.mayJump(4, 2), true);
        due("mayJump to a peg", house.mayJump(1, 3), false);
        due("mayJump a step", house.mayJump(1, 2), false);
        due("mayJump nowhere", house.mayJump(2, 2), false);
        due("mayJump without a peg", house.mayJump(2, 0), false);
        due("mayJump over none", house('s', 1, ROW).mayJump(0, 2), false);
        due("mayJump over no hole", house('s', 1, 0, 2).mayJump(0, 1), false);
        due("jump", house.jump(0, 2), 3);
        due("now after jump", house.now(), 28);
        due("jump on", house.jump(3, 1), 2);
        due("now after two jumps", house.now(), 18);
        due("made after two jumps", house.made(), 2);
        due("row after a jump", jumpedBusy().clear(), 2);
        PegshoreHouse slanted = house('t', 3, 4, 8, 12);
        due("jump along the slanted line", slanted.jump(0, 2), 1);
        due("now after the slanted jump", slanted.now(), 4);
        for (int[] pair : new int[][] {{-1, 0}, {0, -1}, {5, 0}, {0, 5}, {Integer.MAX_VALUE, 0}, {0, Integer.MIN_VALUE}}) {
            Class<?> none = IndexOutOfBoundsException.class;
            thrown("mayJump", PromisesTest::busy, none, h -> h.mayJump(pair[0], pair[1]));
            thrown("jump", PromisesTest::busy, none, h -> h.jump(pair[0], pair[1]));
            thrown("loses", PromisesTest::busy, none, h -> h.loses(pair[0], pair[1]));
        }
        for (int[] pair : new int[][] {{1, 3}, {0, 2}, {0, 0}, {1, 1}, {4, 3}}) {
            Class<?> barred = UnsupportedOperationException.class;
            thrown("jump", PromisesTest::busy, barred, h -> h.jump(pair[0], pair[1]));
            thrown("loses", PromisesTest::busy, barred, h -> h.loses(pair[0], pair[1]));
        }
    }

    private static PegshoreHouse jumpedBusy() {
        PegshoreHouse house = row();
        house.tell(1);
        house.tell(3);
        house.jump(0, 2);
        return house;
    }

    // Promises 13 and 14
    private static void jumpCodes() {
        PegshoreHouse house = diamond('d', 8191 - (1 << 6));
        int[] codes = {6, 406, 806, 1206};
        due("jumps into the middle", house.jumps(), 4);
        for (int i = 0; i < codes.length; i++) {
            int index = i;
            due("jumpAt " + i, answer(house, h -> h.jumpAt(index)), codes[i]);
        }
        due("jumps of none", new PegshoreHouse().jumps(), 0);
        due("jumps of all pegs", diamond('d', 8191).jumps(), 0);
        due("jumps of a row", row().jumps(), 2);
        due("jumpAt of a row", row().jumpAt(1), 402);
        for (int index : new int[] {-1, 2, Integer.MIN_VALUE, Integer.MAX_VALUE}) {
            thrown("jumpAt", PromisesTest::row, NoSuchElementException.class, h -> h.jumpAt(index));
        }
    }

    // Promises 15 and 16
    private static void takingBack() {
        PegshoreHouse house = busy();
        due("takeBack", house.takeBack(), 301);
        due("now after takeBack", house.now(), 28);
        due("made after takeBack", house.made(), 1);
        due("end after takeBack", house.setEnd(4), 4);
        due("row after takeBack", house.clear(), 2);
        due("second takeBack", house.takeBack(), 2);
        due("now after both", house.now(), 27);
        due("made after both", house.made(), 0);
        thrown("takeBack of none", PromisesTest::row, NoSuchElementException.class, PegshoreHouse::takeBack);
        PegshoreHouse played = house('s', 0b01011, ROW);
        played.tell(0);
        played.tell(2);
        played.tell(4);
        played.play();
        due("takeBack of a played jump", played.takeBack(), 204);
        due("now after it", played.now(), 0b01100);
    }

    // Promise 17
    private static void sweeping() {
        PegshoreHouse house = house('s', 0b01011, ROW);
        due("sweeps of none", house.sweeps(), 0);
        house.jump(0, 2);
        due("sweeps of one jump", house.sweeps(), 1);
        house.tell(2);
        house.tell(4);
        house.play();
        due("sweeps of one made and one played", house.sweeps(), 1);
        due("sweeps of two pegs", busy().sweeps(), 2);
        PegshoreHouse other = busy();
        other.takeBack();
        due("sweeps after takeBack", other.sweeps(), 1);
    }

    // Promise 18
    private static void leastForms() {
        due("leastForm of a row's end", row().leastForm(16), 1);
        due("leastForm of itself", row().leastForm(4), 4);
        due("leastForm of none", row().leastForm(0), 0);
        due("leastForm turned a quarter", diamond('s', 0).leastForm(1 << 8), 1);
        due("leastForm of the last", diamond('s', 0).leastForm(1 << 12), 1);
        due("leastForm of a corner", diamond('s', 0).leastForm(1 << 11), 2);
        due("leastForm of a triangle's corner", diamond('t', 0).leastForm(1 << 11), 2);
        due("leastForm of a triangle's other corner", diamond('t', 0).leastForm(1 << 9), 8);
        due("leastForm of all", diamond('s', 0).leastForm(8191), 8191);
        due("leastForm on no holes", new PegshoreHouse().leastForm(0), 0);
        due("leastForm mirrored at the long line", house('s', 0, SQUARE).leastForm(1 << 6 | 1 << 3), 0b110);
    }

    // Promises 19 to 21
    private static void ends() {
        PegshoreHouse house = house('s', 0b01011, ROW);
        due("setEnd first", house.setEnd(0b10000), 0);
        due("setEnd again", house.setEnd(0b10000), 0b10000);
        due("canEnd", house.canEnd(), true);
        due("ways", house.ways(), 1L);
        house.setEnd(house.now());
        due("canEnd of now", house.canEnd(), true);
        due("ways of now", house.ways(), 1L);
        house.setEnd(1);
        due("canEnd of another", house.canEnd(), false);
        due("ways of another", house.ways(), 0L);
        house.setEnd(0);
        due("canEnd of no pegs", house.canEnd(), false);
        house.put(0);
        due("canEnd of no pegs from none", house.canEnd(), true);
        PegshoreHouse two = house('s', 0b011011, 0, 1, 2, 10, 11, 12);
        two.setEnd(0b100100);
        due("ways of two jumps in both orders", two.ways(), 2L);
        PegshoreHouse round = house('d', 0b101, 0, 1, 2, 5, 6, 7, 10, 11, 12);
        due("ways with no jump", round.ways(), 0L);
    }

    // Promises 22 and 23
    private static void hintsAndLosses() {
        PegshoreHouse house = row();
        house.setEnd(0b01001);
        due("hint behind the second jump", house.hint(), 402);
        due("loses by the first jump", house.loses(0, 2), true);
        due("loses by the second jump", house.loses(4, 2), false);
        due("now after hint and loses", house.now(), 27);
        house.setEnd(0b10010);
        due("hint of another end", house.hint(), 2);
        due("loses another end", house.loses(4, 2), true);
        house.setEnd(27);
        due("hint of the end of now", answer(house, PegshoreHouse::hint), "NoSuchElementException");
        due("loses the end of now", house.loses(0, 2), true);
        house.setEnd(1);
        due("loses an end that cannot be", house.loses(0, 2), false);
        thrown("hint of none", PromisesTest::row, NoSuchElementException.class, PegshoreHouse::hint);
        thrown("hint without jumps", PromisesTest::busy, NoSuchElementException.class, PegshoreHouse::hint);
    }

    // Promises 24 to 26
    private static void reaching() {
        due("reached", row().reached(), 5);
        due("dead", row().dead(), 2);
        due("fewest", row().fewest(), 2);
        PegshoreHouse house = house('s', 0b01011, ROW);
        due("reached of a fork", house.reached(), 4);
        due("dead of a fork", house.dead(), 2);
        due("fewest of a fork", house.fewest(), 1);
        house.jump(0, 2);
        due("reached behind a jump", house.reached(), 3);
        house.fill(4);
        due("reached on a smaller board", house.reached(), 2);
        due("reached of none", new PegshoreHouse().reached(), 1);
        due("dead of none", new PegshoreHouse().dead(), 1);
        due("fewest of none", new PegshoreHouse().fewest(), 0);
        due("fewest of all pegs", diamond('d', 8191).fewest(), 13);
        PegshoreHouse slanted = house('s', 3, 4, 8, 12);
        due("reached of a square", slanted.reached(), 1);
        slanted.setKind('t');
        due("reached of a triangle", slanted.reached(), 2);
    }

    // Promise 27
    private static void leastSweeps() {
        PegshoreHouse house = house('s', 0b01011, ROW);
        due("leastSweeps of one peg", sweepsTo(house, 0b10000), 1);
        due("leastSweeps of two pegs", sweepsTo(house, 0b00010), 2);
        due("leastSweeps to now", sweepsTo(house, 0b01011), 0);
        due("leastSweeps to another end", sweepsTo(house, 1), "NoSuchElementException");
        house.jump(0, 2);
        due("leastSweeps in the midst of a sweep", sweepsTo(house, 0b10000), 1);
        PegshoreHouse ten = house('s', 0b0101101011, 0, 1, 2, 3, 4, 10, 11, 12, 13, 14);
        due("leastSweeps of ten holes", sweepsTo(ten, 0b1000010000), 2);
        due("ways of two sweeps", ten.ways(), 6L);
        ten.drill(24);
        due("leastSweeps of eleven holes", sweepsTo(ten, ten.now()), "UnsupportedOperationException");
        Class<?> many = UnsupportedOperationException.class;
        thrown("leastSweeps of too many", () -> diamond('s', 1), many, PegshoreHouse::leastSweeps);
        thrown("leastSweeps of none", PromisesTest::busy, NoSuchElementException.class, PegshoreHouse::leastSweeps);
    }

    private static Object sweepsTo(PegshoreHouse house, int end) {
        house.setEnd(end);
        return answer(house, PegshoreHouse::leastSweeps);
    }

    // Promise 28
    private static void highest() {
        due("highest behind a jump", house('s', 0b110, 0, 5, 10).highest(), 0);
        due("highest now", house('s', 0b011, 0, 5, 10).highest(), 0);
        due("highest without a jump", house('s', 0b100, 0, 5, 10).highest(), 2);
        due("highest in the last row", house('s', 0b10, 0, 24).highest(), 4);
        thrown("highest of no peg", () -> house('s', 0, ROW), NoSuchElementException.class, PegshoreHouse::highest);
        thrown("highest of no hole", PegshoreHouse::new, NoSuchElementException.class, PegshoreHouse::highest);
    }

    // Promises 29 to 32
    private static void weights() {
        PegshoreHouse house = row();
        due("weigh first", house.weigh(1, 99), 0);
        due("weigh again", house.weigh(1, -99), 99);
        due("weigh a third time", house.weigh(1, 2), -99);
        due("weight", weighed(1, 10, 20, -40, 99).weight(0b11010), 69);
        due("weight of no pegs", weighed(1, 10, 20, -40, 99).weight(0), 0);
        due("isProof at first", row().isProof(), true);
        due("isProof on no holes", new PegshoreHouse().isProof(), true);
        due("isProof", weighed(1, 1, 2, 3, 5).isProof(), true);
        due("isProof no more", weighed(1, 1, 2, 3, 6).isProof(), false);
        due("fault", weighed(1, 1, 2, 3, 6).fault(), 204);
        due("fault of like ones", weighed(0, 0, 1, 0, 0).fault(), 2);
        due("fault that makes most more", weighed(0, 0, 1, 0, 3).fault(), 204);
        due("fault below 0", weighed(0, 0, 0, 0, -5).fault(), 402);
        due("fault by the last code", weighed(0, 2, 9, 9, 0).fault(), 2);
        thrown("fault of a proof", PromisesTest::row, NoSuchElementException.class, PegshoreHouse::fault);
        for (int hole : new int[] {-1, 5, Integer.MAX_VALUE}) {
            thrown("weigh", PromisesTest::busy, IndexOutOfBoundsException.class, h -> h.weigh(hole, 1));
            thrown("weigh both", PromisesTest::busy, IndexOutOfBoundsException.class, h -> h.weigh(hole, 100));
        }
        for (int weight : new int[] {-100, 100, Integer.MIN_VALUE}) {
            thrown("weigh", PromisesTest::busy, IllegalArgumentException.class, h -> h.weigh(0, weight));
        }
    }

    private static boolean barred(PegshoreHouse house, int end, boolean byWeights) {
        house.setEnd(end);
        return house.isBarred(byWeights);
    }

    // Promise 33
    private static void barring() {
        PegshoreHouse proof = weighed(1, 1, 2, 3, 5);
        due("isBarred by a higher weight", barred(proof, 0b01000, true), true);
        due("isBarred by a like weight", barred(proof, 0b00100, true), false);
        due("isBarred by a lower weight", barred(proof, 0b00001, true), false);
        due("isBarred by no proof", barred(weighed(1, 1, 2, 3, 6), 0b10000, true), false);
        due("isBarred by colours", barred(proof, 0b01000, false), true);
        due("isBarred by colours not", barred(proof, 0b00100, false), false);
        due("isBarred by colours of no pegs", barred(proof, 0, false), true);
        PegshoreHouse square = house('s', 3, SQUARE);
        due("isBarred by neither colouring", barred(square, 1 << 2, false), false);
        due("isBarred by the colouring 1 alone", barred(square, 1 << 4, false), true);
        due("isBarred by the colouring 0 alone", barred(square, 1 << 3, false), true);
        PegshoreHouse triangle = house('t', 3, SQUARE);
        due("isBarred by a fit colouring", barred(triangle, 1 << 4, false), true);
        due("isBarred by an unfit colouring", barred(triangle, 1 << 3, false), false);
        PegshoreHouse all = house('d', 3, SQUARE);
        due("isBarred without a fit colouring", barred(all, 0, false) || barred(all, 16, false), false);
    }

    // Promises 34 and 35
    private static void colours() {
        PegshoreHouse house = house('s', 0, 0, 4, 8, 20, 24);
        int[][] want = {{0, 2}, {1, 1}, {1, 0}, {1, 0}, {2, 2}};
        for (int hole = 0; hole < want.length; hole++) {
            due("colour 0 of " + hole, house.colour(hole, 0), want[hole][0]);
            due("colour 1 of " + hole, house.colour(hole, 1), want[hole][1]);
        }
        char[] kinds = {'s', 't', 'd'};
        boolean[][] fit = {{true, true}, {false, true}, {false, false}};
        for (int i = 0; i < kinds.length; i++) {
            due("isFit 0 of " + kinds[i], house(kinds[i], 0, SQUARE).isFit(0), fit[i][0]);
            due("isFit 1 of " + kinds[i], house(kinds[i], 0, SQUARE).isFit(1), fit[i][1]);
        }
        due("isFit without jumps", house('d', 0, 0, 1).isFit(0), true);
        due("isFit 0 of a line right and down", house('d', 0, 0, 6, 12).isFit(0), true);
        for (int number : new int[] {-1, 2, Integer.MAX_VALUE}) {
            thrown("colour", PromisesTest::busy, IllegalArgumentException.class, h -> h.colour(0, number));
            thrown("colour both", PromisesTest::busy, IndexOutOfBoundsException.class, h -> h.colour(5, number));
            thrown("isFit", PromisesTest::busy, IllegalArgumentException.class, h -> h.isFit(number));
        }
        thrown("colour", PromisesTest::busy, IndexOutOfBoundsException.class, h -> h.colour(-1, 0));
    }

    // Promises 36 and 37
    private static void duels() {
        due("value without jumps", house('s', 1, ROW).value(), 0);
        due("value 1", house('s', 0b01100, ROW).value(), 1);
        due("value behind 1", house('s', 0b01011, ROW).value(), 0);
        due("value 2", house('s', 0b01101, ROW).value(), 2);
        due("value of two rows", house('s', 0b1100_01101, 0, 1, 2, 3, 4, 10, 11, 12, 13).value(), 3);
        due("winning", house('s', 0b01101, ROW).winning(), 204);
        due("winning by the higher code", house('s', 0b10110, ROW).winning(), 200);
        PegshoreHouse both = house('s', 0b01100, ROW);
        due("winning of two", both.winning(), 204);
        both.setEnd(0b00010);
        due("hint after winning", both.hint(), 301);
        due("winning after hint", both.winning(), 204);
        due("value after winning", both.value(), 1);
        thrown("winning of none", PromisesTest::row, NoSuchElementException.class, PegshoreHouse::winning);
        thrown("winning without jumps", PromisesTest::busy, NoSuchElementException.class, PegshoreHouse::winning);
    }

    // Promises 38 and 41
    private static void telling() {
        PegshoreHouse house = row();
        due("tell first", house.tell(4), 1);
        due("tell the same", house.tell(4), 2);
        due("clear", house.clear(), 2);
        due("clear again", house.clear(), 0);
        due("tell after clear", house.tell(0), 1);
        due("clear of a full row", fullRow().clear(), 12);
        thrown("tell a 13th", PromisesTest::fullRow, IllegalStateException.class, h -> h.tell(0));
        for (int hole : new int[] {-1, 5, Integer.MIN_VALUE}) {
            thrown("tell no hole", PromisesTest::busy, IndexOutOfBoundsException.class, h -> h.tell(hole));
            thrown("tell no hole in a full row", PromisesTest::fullRow, IndexOutOfBoundsException.class, h -> h.tell(hole));
        }
    }

    // Promise 39
    private static void playing() {
        PegshoreHouse house = told(0b01011, 0, 2, 4);
        due("play", house.play(), 2);
        due("now after play", house.now(), 0b10000);
        due("made after play", house.made(), 2);
        due("row after play", house.clear(), 0);
        due("takeBack after play", house.takeBack(), 204);
        due("play of one jump", told(3, 0, 2).play(), 1);
        PegshoreHouse later = told(0b01011, 2, 4);
        later.jump(0, 2);
        due("play of a row told ahead of a jump", later.play(), 1);
        Class<?> fault = UnsupportedOperationException.class;
        thrown("play of no row", PromisesTest::row, fault, PegshoreHouse::play);
        thrown("play of one hole", () -> told(27, 0), fault, PegshoreHouse::play);
        thrown("play without a peg", () -> told(27, 2, 4), fault, PegshoreHouse::play);
        thrown("play with a late fault", () -> told(0b01011, 0, 2, 0), fault, PegshoreHouse::play);
    }

    // Promise 40
    private static void faultsOfRows() {
        due("faultAt of no row", row().faultAt(), 0);
        due("faultAt without a peg", told(27, 2, 4).faultAt(), 0);
        due("faultAt without a peg, alone", told(27, 2).faultAt(), 0);
        due("faultAt of one hole", told(27, 0).faultAt(), 1);
        due("faultAt of the second", told(27, 0, 0, 2).faultAt(), 1);
        due("faultAt of the third", told(0b01011, 0, 2, 0).faultAt(), 2);
        due("faultAt behind the second", told(0b01011, 0, 2, 4, 2).faultAt(), 3);
        due("faultAt of a row of 12", fullRow().faultAt(), 1);
        thrown("faultAt of none", () -> told(0b01011, 0, 2, 4), NoSuchElementException.class, PegshoreHouse::faultAt);
    }

    // Promises 42 to 44
    private static void figures() {
        PegshoreHouse one = house('s', 1, 12);
        one.weigh(0, 3);
        due("checksum of one hole", one.checksum(), 6825053L);
        one.setEnd(1);
        due("checksum with an end", one.checksum(), 6825054L);
        PegshoreHouse house = row();
        long before = house.checksum() - 27 * 31;
        house.jump(0, 2);
        due("checksum with a jump", house.checksum(), (before + 28 * 31) * 31 + 2);
        due("checksum of weights below 0", weighed(-1).checksum(), checksumOfWeighed());
        for (int holes = 1; holes <= 13; holes++) {
            PegshoreHouse drilled = house('s', 0);
            for (int cell = 0; cell < holes; cell++) {
                drilled.drill(cell);
            }
            for (int pegs = 0; pegs <= holes; pegs++) {
                drilled.put((1 << pegs) - 1);
                due("pegBits of " + pegs + " in " + holes, drilled.pegBits(), Float.floatToIntBits((float) pegs / (float) holes));
            }
        }
        thrown("pegBits of no holes", PegshoreHouse::new, ArithmeticException.class, PegshoreHouse::pegBits);
        due("meanJumps", row().meanJumps(), 0.8);
        due("meanJumps of a fork", house('s', 0b01011, ROW).meanJumps(), 0.75);
        due("meanJumps of none", new PegshoreHouse().meanJumps(), 0.0);
    }

    /** The sum of a row of five whose first hole weighs -1, with two pegs. */
    private static long checksumOfWeighed() {
        long sum = 7 * 31 * 31 - 1;
        for (int cell = 1; cell < 5; cell++) {
            sum = (sum * 31 + cell) * 31;
        }
        return (sum * 31 + 3) * 31;
    }

    // Promise 45
    private static void soundness() {
        due("isSound of a new house", new PegshoreHouse().isSound(), true);
        due("isSound of a busy house", busy().isSound(), true);
        due("isSound of a full house", diamond('d', 8191).isSound(), true);
        due("isSound of a full row", fullRow().isSound(), true);
        PegshoreHouse house = busy();
        house.takeBack();
        house.fill(2);
        due("isSound after fill", house.isSound(), true);
    }
}
