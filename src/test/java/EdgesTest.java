import java.math.BigInteger;
import java.util.Arrays;

/**
 * The sentences of the document that name a boundary case, but for those of exceptions (RefusalsTest): the least and
 * the greatest, none and all, what is forgotten and what stays, and sums that wrap around.
 */
public final class EdgesTest extends Checks {
    private static final char[] KINDS = {'s', 't', 'd'};
    private static final int LAST_OF_13 = 1 << 12;
    /** A board of 13 holes on which eleven jumps lead from twelve pegs to one. */
    private static final int[] LONG_GAME = {8, 9, 12, 13, 14, 16, 17, 18, 19, 21, 22, 23, 24};

    public static void main(String[] args) {
        newHouse();
        cellsAndNumbers();
        thirteenHoles();
        linesOfThree();
        linesOfAll();
        kindKeepsAndForgets();
        drillKeepsAndForgets();
        fillKeepsAndForgets();
        symmetries();
        putKeepsAndForgets();
        jumpsOfThree();
        jumpsOfOtherSteps();
        codes();
        longGame();
        takeBackKeeps();
        sweeps();
        longSweep();
        leastForms();
        ends();
        ways();
        hints();
        losses();
        reaching();
        leastSweeps();
        highest();
        weights();
        proofs();
        barredByWeights();
        colours();
        fitColourings();
        barredByColours();
        values();
        winning();
        tellingAndClearing();
        playing();
        faults();
        checksums();
        shares();
        means();
        askedTwice();
        lastCall();
        finish("each boundary holds");
    }

    private static void dueAll(String what, PegshoreHouse house, int[] want, Call... calls) {
        for (int i = 0; i < calls.length; i++) {
            due(what + ", call " + i, answer(house, calls[i]), want[i]);
        }
    }

    // "Creates a house with a square board without holes"; "a board has no holes at first"
    private static void newHouse() {
        PegshoreHouse house = new PegshoreHouse();
        dueAll("a new house", house, new int[] {0, 8, 0, 0, 0, 0, 0, 0, 0, 1, 1, 0, 0, 0, 0, 0, 0},
                PegshoreHouse::lines, PegshoreHouse::symmetries, PegshoreHouse::now, PegshoreHouse::jumps,
                PegshoreHouse::made, PegshoreHouse::sweeps, h -> h.leastForm(0), h -> h.put(0), h -> h.setEnd(0),
                PegshoreHouse::reached, PegshoreHouse::dead, PegshoreHouse::fewest, PegshoreHouse::leastSweeps,
                h -> h.weight(0), PegshoreHouse::value, PegshoreHouse::faultAt, PegshoreHouse::clear);
        due("canEnd of a new house", house.canEnd(), true);
        due("ways of a new house", house.ways(), 1L);
        due("isProof of a new house", house.isProof(), true);
        due("isBarred of a new house", house.isBarred(true) || house.isBarred(false), false);
        due("isFit of a new house", house.isFit(0) && house.isFit(1), true);
        due("meanJumps of a new house", house.meanJumps(), 0.0);
        due("checksum of a new house", house.checksum(), 7L * 31 * 31);
        due("isSound of a new house", house.isSound(), true);
        due("kind of a new house", house.setKind('s'), 's');
    }

    // "holes at some of 25 cells, numbered by rows of 5"; "numbered from 0 by their cells"
    private static void cellsAndNumbers() {
        for (int cell = 0; cell < 25; cell++) {
            PegshoreHouse house = new PegshoreHouse();
            due("drill of " + cell, house.drill(cell), 1);
            due("hole at " + cell, house.hole(cell), 0);
            due("cell of the hole at " + cell, house.cell(0), cell);
            due("fill of " + cell, house.fill(cell), 0);
        }
        PegshoreHouse down = house('s', 0, 24, 20, 4, 0);
        int[] cells = {0, 4, 20, 24};
        for (int hole = 0; hole < cells.length; hole++) {
            due("cell by cells " + hole, down.cell(hole), cells[hole]);
            due("hole by cells " + hole, down.hole(cells[hole]), hole);
        }
    }

    // "at most 13 of them are holes"
    private static void thirteenHoles() {
        PegshoreHouse first = new PegshoreHouse();
        PegshoreHouse last = new PegshoreHouse();
        for (int i = 1; i <= 13; i++) {
            due("drill from the first cell on", first.drill(i - 1), i);
            due("drill from the last cell back", last.drill(25 - i), i);
        }
        due("cell of the last of 13", first.cell(12), 12);
        due("cell of the first of the last 13", last.cell(0), 12);
        due("cell of the last of the last 13", last.cell(12), 24);
        due("put on all 13", last.put(8191), 0);
        due("fill of one of 13", last.fill(12), 12);
        due("drill when there are 12", last.drill(0), 13);
        due("now behind both", last.now(), 8190);
        for (int i = 12; i >= 0; i--) {
            due("fill down to none", first.fill(i), i);
        }
        due("put on none left", first.put(0), 0);
    }

    /** Whether three cells, by their numbers, are a line of the kind. */
    private static boolean isLine(char kind, int first, int second, int third) {
        int step = second - first;
        int down = second / 5 - first / 5;
        int right = second % 5 - first % 5;
        boolean straight = third - second == step && third / 5 - second / 5 == down && third % 5 - second % 5 == right;
        if (!straight) {
            return false;
        }
        boolean along = down == 0 && right == 1 || down == 1 && right == 0;
        return along || kind != 's' && down == 1 && right == -1 || kind == 'd' && down == 1 && right == 1;
    }

    // "pegs jump along rows and columns ... down and a column to the left ... to the right; along each line both ways":
    // all boards of three holes, so that no line goes round a border of the board
    private static void linesOfThree() {
        for (char kind : KINDS) {
            int boards = 0;
            for (int first = 0; first < 25; first++) {
                for (int second = first + 1; second < 25; second++) {
                    for (int third = second + 1; third < 25; third++) {
                        int want = isLine(kind, first, second, third) ? 2 : 0;
                        due("lines of " + kind + " " + first + " " + second + " " + third,
                                house(kind, 0, first, second, third).lines(), want);
                        boards += want / 2;
                    }
                }
            }
            due("boards with a line of " + kind, boards, kind == 's' ? 30 : kind == 't' ? 39 : 48);
        }
    }

    // "how many jumps the board has, whatever pegs there are"
    private static void linesOfAll() {
        int[] want = {20, 26, 32};
        for (int i = 0; i < KINDS.length; i++) {
            for (int pegs : new int[] {0, 1, 8191}) {
                due("lines of " + KINDS[i] + " with " + pegs, diamond(KINDS[i], pegs).lines(), want[i]);
            }
        }
        due("lines over no hole", house('d', 0, 0, 2, 4, 10, 12, 14, 20, 22, 24).lines(), 0);
    }

    private static void dueWeights(String what, PegshoreHouse house, int... want) {
        for (int hole = 0; hole < want.length; hole++) {
            due(what + " at " + hole, house.weight(1 << hole), want[hole]);
        }
    }

    // "Sets the kind of the board, be it the same; jumps made and the row told are forgotten, the position and the end
    // stay"
    private static void kindKeepsAndForgets() {
        for (char kind : KINDS) {
            PegshoreHouse house = midst();
            due("setKind to " + kind, house.setKind(kind), 's');
            dueAll("setKind to " + kind, house, new int[] {0, 0, 0, 0b01100, 0b10000}, PegshoreHouse::made,
                    PegshoreHouse::sweeps, PegshoreHouse::clear, PegshoreHouse::now, h -> h.setEnd(0));
            dueWeights("weight behind setKind to " + kind, house, -20, -10, 0, 10, 20);
            due("setKind again", house.setKind(kind), kind);
        }
        PegshoreHouse house = house('s', 3, 0, 6, 12);
        due("jumps of a square", house.reached() * 10 + house.jumps(), 10);
        house.setKind('d');
        due("jumps of a double one", house.reached() * 10 + house.jumps(), 21);
        house.setKind('t');
        due("jumps of a triangle", house.reached() * 10 + house.jumps(), 10);
    }

    // "Makes a cell a hole, without a peg and with the weight 0; other pegs and weights stay at their cells; jumps made
    // and the row told are forgotten, the end has no peg"
    private static void drillKeepsAndForgets() {
        int[] cells = {0, 6, 24};
        int[] now = {0b1110, 0b1101, 0b0111};
        int[][] weights = {{0, -99, 5, 99}, {-99, 0, 5, 99}, {-99, 5, 99, 0}};
        for (int i = 0; i < cells.length; i++) {
            PegshoreHouse house = house('s', 7, 5, 7, 23);
            house.weigh(0, -99);
            house.weigh(1, 5);
            house.weigh(2, 99);
            house.setEnd(7);
            due("drill", house.drill(cells[i]), 4);
            due("now behind drill of " + cells[i], house.now(), now[i]);
            dueWeights("weight behind drill of " + cells[i], house, weights[i]);
            due("end behind drill of " + cells[i], house.setEnd(0), 0);
        }
        PegshoreHouse house = midst();
        house.drill(24);
        dueAll("busy behind drill", house, new int[] {0, 0, 0, 0b01100, 0}, PegshoreHouse::made, PegshoreHouse::sweeps,
                PegshoreHouse::clear, PegshoreHouse::now, h -> h.setEnd(0));
        PegshoreHouse again = house('s', 3, 0, 2);
        due("reached ahead of drill", again.reached(), 1);
        again.drill(1);
        due("now behind drill between", again.now(), 0b101);
        again.put(3);
        due("reached behind drill", again.reached(), 2);
    }

    // "Makes a hole none any more, with its peg and weight; other pegs and weights stay at their cells; jumps made and
    // the row told are forgotten, the end has no peg"
    private static void fillKeepsAndForgets() {
        int[][] weights = {{5, -7, 99}, {-99, -7, 99}, {-99, 5, 99}, {-99, 5, -7}};
        int[] cells = {0, 6, 7, 24};
        int[] now = {0b110, 0b111, 0b101, 0b101};
        for (int i = 0; i < cells.length; i++) {
            PegshoreHouse house = house('s', 0b1101, cells);
            house.weigh(0, -99);
            house.weigh(1, 5);
            house.weigh(2, -7);
            house.weigh(3, 99);
            house.setEnd(15);
            due("fill", house.fill(cells[i]), 3);
            due("now behind fill of " + cells[i], house.now(), now[i]);
            dueWeights("weight behind fill of " + cells[i], house, weights[i]);
            due("end behind fill of " + cells[i], house.setEnd(0), 0);
            due("drill again", house.drill(cells[i]), 4);
            due("weight of the hole again", house.weight(1 << i), 0);
            due("peg of the hole again", house.now() >> i & 1, 0);
        }
        PegshoreHouse house = midst();
        house.fill(0);
        dueAll("busy behind fill", house, new int[] {0, 0, 0, 0b0110, 0}, PegshoreHouse::made, PegshoreHouse::sweeps,
                PegshoreHouse::clear, PegshoreHouse::now, h -> h.setEnd(0));
        PegshoreHouse one = house('s', 1, 12);
        due("fill of the only hole", one.fill(12), 0);
        due("now of no holes left", one.now(), 0);
    }

    // "Returns 1 to 8"; "one of the eight by which 5 by 5 cells turn and mirror, by which holes become holes, others not,
    // and each jump that the board has one that it has; each of the eight counts"
    private static void symmetries() {
        due("symmetries of the middle alone", house('s', 0, 12).symmetries(), 8);
        due("symmetries of a corner alone", house('s', 0, 0).symmetries(), 2);
        due("symmetries of no mirror and no turn", house('s', 0, 0, 1).symmetries(), 1);
        due("symmetries of a middle row", house('s', 0, 10, 11, 12, 13, 14).symmetries(), 4);
        due("symmetries of a half turn alone", house('s', 0, 1, 23).symmetries(), 2);
        due("symmetries of quarter turns alone", house('s', 0, 1, 9, 15, 23).symmetries(), 4);
        due("symmetries of four corners", house('s', 0, 0, 4, 20, 24).symmetries(), 8);
        due("symmetries of the cells of a triangle", house('t', 0, SQUARE).symmetries(), 2);
        due("symmetries of jumps that turn away", house('t', 0, 2, 6, 10).symmetries(), 2);
        due("symmetries of a slanted line in the middle", house('t', 0, 8, 12, 16).symmetries(), 4);
        due("symmetries of a cross without jumps", house('s', 0, 6, 8, 12, 16, 18).symmetries(), 8);
        due("symmetries of a cross with jumps one way", house('t', 0, 6, 8, 12, 16, 18).symmetries(), 4);
        due("symmetries of a cross with jumps both ways", house('d', 0, 6, 8, 12, 16, 18).symmetries(), 8);
    }

    // "Sets the position; jumps made are forgotten, the row told stays"
    private static void putKeepsAndForgets() {
        for (int pegs : new int[] {0, 0b01100, 31}) {
            PegshoreHouse house = midst();
            due("put of " + pegs, house.put(pegs), 0b01100);
            dueAll("busy behind put of " + pegs, house, new int[] {pegs, 0, 0, 2, 0b10000}, PegshoreHouse::now,
                    PegshoreHouse::made, PegshoreHouse::sweeps, PegshoreHouse::clear, h -> h.setEnd(0));
        }
        PegshoreHouse house = midst();
        house.put(0b01100);
        due("play of the row that stays", house.play(), 1);
    }

    // "from its hole over the next cell along a line, which is a hole with a peg, to the one behind it, which is a hole
    // without one; the peg that is jumped over is taken"
    private static void jumpsOfThree() {
        for (int pegs = 0; pegs < 8; pegs++) {
            PegshoreHouse house = house('s', pegs, 0, 1, 2);
            due("mayJump right with " + pegs, house.mayJump(0, 2), pegs == 0b011);
            due("mayJump left with " + pegs, house.mayJump(2, 0), pegs == 0b110);
            due("jumps with " + pegs, house.jumps(), pegs == 0b011 || pegs == 0b110 ? 1 : 0);
        }
        PegshoreHouse right = house('s', 3, 0, 1, 2);
        due("jump with one peg left", right.jump(0, 2), 1);
        due("now behind a jump right", right.now(), 0b100);
        PegshoreHouse left = house('s', 6, 0, 1, 2);
        due("jump left with one peg left", left.jump(2, 0), 1);
        due("now behind a jump left", left.now(), 0b001);
    }

    // "a hole" and "another one, or the same": steps of one, three and four, and aside, are none
    private static void jumpsOfOtherSteps() {
        int[] cells = {0, 1, 2, 3, 4, 6, 7, 8, 11, 12, 13, 17, 22};
        PegshoreHouse house = house('d', 8191, cells);
        for (int from = 0; from < 13; from++) {
            for (int to = 0; to < 13; to++) {
                house.put(8191 & ~(from == to ? 0 : 1 << to));
                int down = Math.abs(cells[to] / 5 - cells[from] / 5);
                int right = Math.abs(cells[to] % 5 - cells[from] % 5);
                boolean straight = Math.max(down, right) == 2 && down % 2 == 0 && right % 2 == 0;
                straight = straight && Arrays.binarySearch(cells, (cells[from] + cells[to]) / 2) >= 0;
                due("mayJump of steps from " + cells[from] + " to " + cells[to], house.mayJump(from, to), straight);
            }
        }
    }

    // "The code of a jump is 100 times the hole from which, and the hole to which, together"; "from 0"
    private static void codes() {
        PegshoreHouse house = house('s', 0b1100000000000 | 0b110, 0, 1, 2, 3, 4, 5, 6, 7, 8, 9, 20, 21, 22);
        dueAll("the least and the greatest code", house, new int[] {3, 103, 200, 1210}, PegshoreHouse::jumps,
                h -> h.jumpAt(0), h -> h.jumpAt(1), h -> h.jumpAt(2));
        house.jump(12, 10);
        due("code taken back", house.takeBack(), 1210);
        house.put(0b110000000011);
        dueAll("codes to the right", house, new int[] {2, 2, 1012}, PegshoreHouse::jumps, h -> h.jumpAt(0),
                h -> h.jumpAt(1));
        PegshoreHouse middle = diamond('d', 8191 - (1 << 6));
        int last = -1;
        for (int i = 0; i < middle.jumps(); i++) {
            due("codes that go up", middle.jumpAt(i) > last, true);
            last = middle.jumpAt(i);
        }
        due("the last code", last, 1206);
    }

    /** Plays by hints as far as they go; answers how many jumps these are. */
    private static int playByHints(PegshoreHouse house) {
        int jumps = 0;
        while (house.now() != 4 && jumps < 12) {
            int code = house.hint();
            due("pegs left behind jump " + jumps, house.jump(code / 100, code % 100), 11 - jumps);
            jumps++;
            due("made behind jump " + jumps, house.made(), jumps);
        }
        return jumps;
    }

    // "how many pegs are left"; "how many jumps were made": from twelve pegs to one, and back
    private static void longGame() {
        PegshoreHouse house = house('d', 8187, LONG_GAME);
        house.setEnd(4);
        due("ways of the long game", house.ways(), 8426L);
        due("fewest of the long game", house.fewest(), 1);
        due("jumps of the long game", playByHints(house), 11);
        due("jumps at the end", house.jumps(), 0);
        due("ways at the end", house.ways(), 1L);
        due("reached at the end", house.reached(), 1);
        due("isSound at the end", house.isSound(), true);
        for (int made = 11; made > 0; made--) {
            due("made ahead of takeBack", house.made(), made);
            int code = house.takeBack();
            due("a jump taken back can be made", house.mayJump(code / 100, code % 100), true);
        }
        due("now with all taken back", house.now(), 8187);
        due("made with all taken back", house.made(), 0);
        due("sweeps with all taken back", house.sweeps(), 0);
    }

    // "To take a jump back makes the position, and the jumps made, as they were ahead of it; all else stays"
    private static void takeBackKeeps() {
        PegshoreHouse house = midst();
        due("takeBack of the only jump", house.takeBack(), 2);
        dueAll("busy behind takeBack", house, new int[] {0b01011, 0, 0, 2, 0b10000}, PegshoreHouse::now,
                PegshoreHouse::made, PegshoreHouse::sweeps, PegshoreHouse::clear, h -> h.setEnd(0));
        dueWeights("weight behind takeBack", house, -20, -10, 0, 10, 20);
        due("kind behind takeBack", house.setKind('s'), 's');
        PegshoreHouse two = midst();
        two.play();
        due("takeBack of a played jump", two.takeBack(), 204);
        due("made behind it", two.made(), 1);
        due("now behind it", two.now(), 0b01100);
    }

    /** Two rows, in each of which one peg has two jumps right behind one another. */
    private static PegshoreHouse twoRows() {
        return house('s', 0b01011_01011, TWO_ROWS);
    }

    private static int sweepsOf(int... codes) {
        PegshoreHouse house = twoRows();
        for (int code : codes) {
            house.jump(code / 100, code % 100);
        }
        return house.sweeps();
    }

    // "jumps of one peg, right behind one another, made one by one or played, no more of which lies ahead of it or behind
    // it"
    private static void sweeps() {
        due("sweeps of no jump", sweepsOf(), 0);
        due("sweeps of one jump", sweepsOf(2), 1);
        due("sweeps of a peg's two jumps", sweepsOf(2, 204), 1);
        due("sweeps of two pegs' jumps", sweepsOf(2, 507), 2);
        due("sweeps of two pegs' two jumps", sweepsOf(2, 204, 507, 709), 2);
        due("sweeps of a peg's jumps apart", sweepsOf(2, 507, 204), 3);
        due("sweeps by turns", sweepsOf(2, 507, 204, 709), 4);
        PegshoreHouse house = twoRows();
        house.jump(0, 2);
        house.tell(2);
        house.tell(4);
        house.play();
        due("sweeps of a jump made and one played", house.sweeps(), 1);
        house.takeBack();
        due("sweeps with one taken back", house.sweeps(), 1);
        house.jump(2, 4);
        due("sweeps going on behind takeBack", house.sweeps(), 1);
        house.jump(5, 7);
        house.takeBack();
        house.takeBack();
        house.jump(5, 7);
        house.jump(2, 4);
        due("sweeps broken behind takeBack", house.sweeps(), 3);
        PegshoreHouse played = twoRows();
        for (int[] row : new int[][] {{0, 2}, {2, 4}, {5, 7, 9}}) {
            for (int hole : row) {
                played.tell(hole);
            }
            played.play();
        }
        due("sweeps of three rows played", played.sweeps(), 2);
    }

    // the longest row that 13 holes let a peg jump
    private static void longSweep() {
        PegshoreHouse house = diamond('d', 8191 - (1 << 4) - (1 << 6) - (1 << 8) - (1 << 12));
        for (int hole : new int[] {0, 6, 4, 0, 8, 6, 12, 8}) {
            house.tell(hole);
        }
        due("play of seven jumps", house.play(), 7);
        due("made behind seven", house.made(), 7);
        due("sweeps of seven", house.sweeps(), 1);
        due("now behind seven", house.now(), 1 << 8 | 1 << 9);
        due("clear behind seven", house.clear(), 0);
    }

    // "the least number that the bits of it are behind a symmetry"
    private static void leastForms() {
        PegshoreHouse corners = house('s', 0, 0, 4, 20, 24);
        for (int hole = 0; hole < 4; hole++) {
            due("leastForm of a corner " + hole, corners.leastForm(1 << hole), 1);
            due("leastForm of all corners but one " + hole, corners.leastForm(15 - (1 << hole)), 7);
        }
        due("leastForm of corners side by side", corners.leastForm(0b1100), 0b0011);
        due("leastForm of corners across", corners.leastForm(0b1001), 0b0110);
        PegshoreHouse none = house('s', 0, 0, 1);
        due("leastForm without a symmetry", none.leastForm(0b10), 0b10);
        for (char kind : KINDS) {
            due("leastForm of no pegs", diamond(kind, 0).leastForm(0), 0);
            due("leastForm of all pegs", diamond(kind, 0).leastForm(8191), 8191);
        }
        PegshoreHouse turned = house('s', 0, 1, 9, 15, 23);
        due("leastForm by quarter turns alone", turned.leastForm(0b1010), 0b0011);
        due("leastForm of a half", turned.leastForm(0b0110), 0b0110);
        PegshoreHouse now = house('s', 0b10000, ROW);
        due("leastForm of another than now", now.leastForm(0b01000), 0b00010);
        due("now behind leastForm", now.now(), 0b10000);
    }

    // "An end is a position, with no peg at first"; "or it is that position"; "1 if it is so already"
    private static void ends() {
        PegshoreHouse house = house('s', 31, ROW);
        due("the first end", house.setEnd(31), 0);
        due("the greatest end", house.setEnd(0), 31);
        PegshoreHouse all = diamond('s', 8191);
        due("the first end of 13", all.setEnd(8191), 0);
        due("canEnd of all pegs", all.canEnd(), true);
        due("the greatest end of 13", all.setEnd(LAST_OF_13), 8191);
        due("canEnd of one peg", all.canEnd(), false);
        PegshoreHouse none = house('s', 0, ROW);
        due("canEnd of none with none", none.canEnd(), true);
        due("ways of none with none", none.ways(), 1L);
        none.put(1);
        due("canEnd of none with one", none.canEnd(), false);
        due("ways of none with one", none.ways(), 0L);
        PegshoreHouse one = house('s', 3, 0, 1, 2);
        one.setEnd(4);
        due("canEnd by one jump", one.canEnd(), true);
        one.jump(0, 2);
        due("canEnd behind it", one.canEnd(), true);
        one.setEnd(3);
        due("canEnd back", one.canEnd(), false);
    }

    // "A way is a row of jumps; two ways differ if some jump does, or their order"
    private static void ways() {
        PegshoreHouse two = twoRows();
        two.setEnd(0b01100_01100);
        due("ways of two jumps in both orders", two.ways(), 2L);
        two.setEnd(0b10000_10000);
        due("ways of two and two jumps", two.ways(), 6L);
        two.setEnd(0b01100_10000);
        due("ways of one and two jumps", two.ways(), 3L);
        two.setEnd(0b01011_01011);
        due("ways of no jump", two.ways(), 1L);
        PegshoreHouse line = house('s', 0b01100, ROW);
        line.setEnd(0b00010);
        due("ways of one jump", line.ways(), 1L);
        PegshoreHouse other = house('s', 0b01111, ROW);
        other.setEnd(0b10000);
        due("ways of none", other.ways(), 0L);
    }

    // "the jump with the lowest code behind which the end can be come to"
    private static void hints() {
        PegshoreHouse two = twoRows();
        two.setEnd(0b10000_10000);
        due("hint of two that keep it", two.hint(), 2);
        two.setEnd(0b01100_01011);
        due("hint of the other one", two.hint(), 507);
        two.setEnd(0b01011_01100);
        due("hint that is the end itself", two.hint(), 2);
        two.jump(0, 2);
        due("hint at the end", answer(two, PegshoreHouse::hint), "NoSuchElementException");
        PegshoreHouse far = house('s', 0b1100 << 9, 0, 1, 2, 3, 4, 5, 6, 7, 8, 9, 20, 21, 22);
        far.setEnd(1 << 10);
        due("hint of the greatest code", far.hint(), 1210);
    }

    // "loses the end, which can be come to ahead of it, or is there already, but cannot behind it"
    private static void losses() {
        PegshoreHouse house = twoRows();
        house.setEnd(0b01011_10000);
        due("loses with the right row", house.loses(0, 2), false);
        due("loses with the other row", house.loses(5, 7), true);
        house.setEnd(0b01011_01011);
        due("loses the end that is there", house.loses(0, 2), true);
        house.setEnd(0);
        due("loses an end that cannot be", house.loses(0, 2), false);
        house.setEnd(0b01011_01100);
        due("loses by coming to it", house.loses(0, 2), false);
        due("now behind loses", house.now(), 0b01011_01011);
        due("made behind loses", house.made(), 0);
    }

    // "that of now counted"; "how many of these have no jump"; "the one of these with the fewest"
    private static void reaching() {
        int[] want = {1, 1, 13};
        dueAll("all 13 pegs", diamond('d', 8191), want, PegshoreHouse::reached, PegshoreHouse::dead, PegshoreHouse::fewest);
        want[2] = 0;
        dueAll("no pegs", diamond('d', 0), want, PegshoreHouse::reached, PegshoreHouse::dead, PegshoreHouse::fewest);
        want[2] = 1;
        dueAll("one peg", diamond('d', LAST_OF_13), want, PegshoreHouse::reached, PegshoreHouse::dead,
                PegshoreHouse::fewest);
        dueAll("two pegs", house('s', 3, 0, 1, 2), new int[] {2, 1, 1}, PegshoreHouse::reached, PegshoreHouse::dead,
                PegshoreHouse::fewest);
        dueAll("two ways for two pegs", house('s', 0b00110, ROW), new int[] {3, 2, 1}, PegshoreHouse::reached,
                PegshoreHouse::dead, PegshoreHouse::fewest);
        dueAll("two rows", twoRows(), new int[] {16, 4, 2}, PegshoreHouse::reached, PegshoreHouse::dead,
                PegshoreHouse::fewest);
    }

    private static Object sweepsTo(PegshoreHouse house, int end) {
        house.setEnd(end);
        return answer(house, PegshoreHouse::leastSweeps);
    }

    // "with how many sweeps at least the end can be come to, a new one beginning with the first jump"; "0 if it is so
    // already"; "more than 10 holes"
    private static void leastSweeps() {
        due("leastSweeps on no holes", sweepsTo(new PegshoreHouse(), 0), 0);
        PegshoreHouse ten = twoRows();
        due("leastSweeps of ten holes to now", sweepsTo(ten, 0b01011_01011), 0);
        due("leastSweeps by one jump", sweepsTo(ten, 0b01011_01100), 1);
        due("leastSweeps by two jumps", sweepsTo(ten, 0b01011_10000), 1);
        due("leastSweeps by two pegs", sweepsTo(ten, 0b01100_01100), 2);
        due("leastSweeps by two pegs and four jumps", sweepsTo(ten, 0b10000_10000), 2);
        due("leastSweeps to none", sweepsTo(ten, 1), "NoSuchElementException");
        ten.jump(0, 2);
        due("leastSweeps in the midst of a sweep", sweepsTo(ten, 0b01011_10000), 1);
        ten.jump(5, 7);
        due("leastSweeps in the midst of two", sweepsTo(ten, 0b10000_10000), 2);
        ten.drill(24);
        due("leastSweeps of eleven holes to now", sweepsTo(ten, ten.now()), "UnsupportedOperationException");
        ten.fill(24);
        due("leastSweeps of ten holes again", sweepsTo(ten, 0b10000_10000), 2);
        PegshoreHouse apart = house('s', 0b01011, ROW);
        due("leastSweeps by one peg and another", sweepsTo(apart, 0b00010), 2);
        PegshoreHouse last = house('s', 0b1100000000, 0, 1, 2, 3, 4, 5, 6, 22, 23, 24);
        due("leastSweeps from the tenth hole", sweepsTo(last, 1 << 7), 1);
        last.put(0b0110000000);
        due("leastSweeps to the tenth hole", sweepsTo(last, 1 << 9), 1);
        PegshoreHouse first = house('s', 0b011, 0, 1, 2);
        due("leastSweeps from the first hole", sweepsTo(first, 0b100), 1);
        first.put(0b110);
        due("leastSweeps to the first hole", sweepsTo(first, 0b001), 1);
    }

    // "the least row that a peg has in some position that can be come to"; "0 to 4"
    private static void highest() {
        for (int row = 0; row < 5; row++) {
            due("highest of the first cell of row " + row, house('s', 1, 5 * row).highest(), row);
            due("highest of the last cell of row " + row, house('s', 1, 5 * row + 4).highest(), row);
        }
        due("highest of the last hole", house('s', 2, 0, 24).highest(), 4);
        due("highest of all", diamond('s', 8191).highest(), 0);
        due("highest two jumps up", house('s', 0b11010, 0, 5, 10, 15, 20).highest(), 0);
        due("highest of a jump down", house('s', 0b0011 << 1, 0, 5, 10, 15).highest(), 0);
        due("highest without a line", house('s', 0b110, 0, 6, 12).highest(), 1);
        due("highest along a line", house('d', 0b110, 0, 6, 12).highest(), 0);
        due("highest that a jump leaves", house('s', 0b011, 0, 5, 10).highest(), 0);
    }

    // "a weight, -99 to 99, 0 at first"; "the sum of those of its pegs"
    private static void weights() {
        for (int sign = -1; sign <= 1; sign += 2) {
            PegshoreHouse house = diamond('s', 0);
            for (int hole = 0; hole < 13; hole++) {
                due("the first weight of " + hole, house.weigh(hole, 99 * sign), 0);
                due("the weight of " + hole, house.weigh(hole, 99 * sign), 99 * sign);
            }
            due("the weight of all", house.weight(8191), 1287 * sign);
            due("the weight of none", house.weight(0), 0);
            due("the weight of the last", house.weight(LAST_OF_13), 99 * sign);
            due("the weight of all but the last", house.weight(LAST_OF_13 - 1), 1188 * sign);
            due("the weight set back", house.weigh(12, 0), 99 * sign);
            due("the weight of all but one", house.weight(8191), 1188 * sign);
        }
        PegshoreHouse busy = midst();
        busy.weigh(0, -99);
        dueAll("busy behind weigh", busy, new int[] {1, 1, 2, 0b01100, 0b10000}, PegshoreHouse::made, PegshoreHouse::sweeps,
                PegshoreHouse::clear, PegshoreHouse::now, h -> h.setEnd(0));
    }

    private static Object faultOf(int... weights) {
        return answer(weighed(weights), PegshoreHouse::fault);
    }

    // "the weight of the hole to which it goes is not above that of the two others together"; "makes most more, of like
    // ones the lowest code"
    private static void proofs() {
        due("isProof with like sums", weighed(1, 1, 2, 3, 5).isProof(), true);
        due("isProof with one more", weighed(1, 1, 2, 3, 6).isProof(), false);
        due("isProof with like sums to the left", weighed(4, 2, 2, 0, 2).isProof(), true);
        due("isProof with one more to the left", weighed(5, 2, 2, 0, 2).isProof(), false);
        due("isProof with one less than nothing", weighed(-1, 0, 0, 0, 0).isProof(), false);
        due("isProof of the least weights", weighed(-99, -99, -99, -99, -99).isProof(), false);
        due("isProof of the greatest weights", weighed(99, 99, 99, 99, 99).isProof(), true);
        due("fault of like ones", faultOf(-1, -1, -1, -1, -1), 2);
        due("fault of the greatest", faultOf(-99, -99, 99, 0, 0), 2);
        due("fault by one more", faultOf(0, 0, 0, 0, 1), 204);
        due("fault by one more of like ones", faultOf(1, 0, 0, 0, 1), 200);
        due("fault of the last code", faultOf(0, 0, 1, 0, -1), 402);
        due("fault of the middle hole", faultOf(0, -5, 0, 0, 0), 2);
        due("fault of a lower one that makes less", faultOf(0, 0, 1, -1, 0), 402);
        PegshoreHouse none = house('s', 0, 0, 1, 5);
        none.weigh(0, 99);
        none.weigh(1, -99);
        due("isProof without jumps", none.isProof(), true);
        PegshoreHouse pegless = weighed(0, 0, 1);
        pegless.put(0);
        due("isProof whatever pegs there are", pegless.isProof(), false);
        pegless.weigh(2, 0);
        due("isProof of weights set back", pegless.isProof(), true);
    }

    private static boolean barred(PegshoreHouse house, int end, boolean byWeights) {
        house.setEnd(end);
        return house.isBarred(byWeights);
    }

    // "if they are a proof, and it weighs more than the position of now"
    private static void barredByWeights() {
        PegshoreHouse proof = weighed(5, 5, 10, 5, 6);
        due("isProof ahead of isBarred", proof.isProof(), true);
        due("isBarred by one more", barred(proof, 0b11000, true), true);
        due("isBarred by as much", barred(proof, 0b01010, true), false);
        due("isBarred by one less", barred(weighed(5, 6, 10, 5, 5), 0b00100, true), false);
        due("isBarred of the position of now", barred(proof, 3, true), false);
        due("isBarred of no pegs", barred(proof, 0, true), false);
        proof.put(0);
        due("isBarred from no pegs", barred(proof, 1, true), true);
        due("isBarred of none from none", barred(proof, 0, true), false);
        due("isBarred by no proof", barred(weighed(0, 0, 0, 0, 1), 0b10000, true), false);
    }

    // "by the number 0 the rest of its row and column together by 3, by the number 1 the rest of its row, 5 less its
    // column, together by 3"; "Returns 0 to 2"
    private static void colours() {
        String[] sums = {"01201", "12012", "20120", "01201", "12012"};
        String[] gaps = {"21021", "02102", "10210", "21021", "02102"};
        for (int cell = 0; cell < 25; cell++) {
            PegshoreHouse house = house('s', 0, cell);
            due("colour 0 of the cell " + cell, house.colour(0, 0), sums[cell / 5].charAt(cell % 5) - '0');
            due("colour 1 of the cell " + cell, house.colour(0, 1), gaps[cell / 5].charAt(cell % 5) - '0');
        }
        PegshoreHouse all = house('s', 0, 12, 13, 14, 15, 16, 17, 18, 19, 20, 21, 22, 23, 24);
        due("colour of the last of 13", all.colour(12, 0) * 10 + all.colour(12, 1), 22);
        due("colour of the first of 13", all.colour(0, 0) * 10 + all.colour(0, 1), 12);
    }

    // "if the three holes of each jump of the board have three colours"
    private static void fitColourings() {
        int[][] lines = {{0, 1, 2}, {22, 23, 24}, {0, 5, 10}, {14, 19, 24}, {2, 6, 10}, {14, 18, 22}, {0, 6, 12},
            {12, 18, 24}};
        for (int[] line : lines) {
            for (char kind : KINDS) {
                boolean left = line[1] - line[0] == 4 && kind != 's';
                boolean right = line[1] - line[0] == 6 && kind == 'd';
                due("isFit 0 of " + kind + line[0], house(kind, 0, line).isFit(0), !left);
                due("isFit 1 of " + kind + line[0], house(kind, 0, line).isFit(1), !right);
            }
        }
        due("isFit 0 without jumps", house('d', 3, 0, 1).isFit(0), true);
        due("isFit 1 without jumps", house('d', 3, 0, 1).isFit(1), true);
        due("isFit with one jump that is not", house('t', 0, 2, 6, 10, 11, 12).isFit(0), false);
    }

    // "has two colours for which the sum of both their numbers of pegs is even in one of the position of now and the end,
    // and odd in the other one"
    private static void barredByColours() {
        PegshoreHouse row = house('s', 0, ROW);
        for (int now = 0; now < 32; now++) {
            row.put(now);
            for (int end = 0; end < 32; end++) {
                int[] odd = new int[3];
                for (int hole = 0; hole < 5; hole++) {
                    odd[hole % 3] ^= (now ^ end) >> hole & 1;
                }
                boolean want = odd[0] != odd[1] || odd[1] != odd[2];
                due("isBarred by colours of " + end + " from " + now, barred(row, end, false), want);
            }
        }
        PegshoreHouse slanted = house('t', 0b001, 2, 6, 10);
        due("isBarred by the colouring 1 alone", barred(slanted, 0b010, false), true);
        PegshoreHouse other = house('d', 0b001, 0, 6, 12);
        due("isBarred by the colouring 0 alone", barred(other, 0b010, false), true);
        PegshoreHouse none = house('d', 0b001, SQUARE);
        due("isFit of neither", none.isFit(0) || none.isFit(1), false);
        for (int end = 0; end < 512; end++) {
            due("isBarred without a fit colouring", barred(none, end, false), false);
        }
    }

    // "who cannot jump loses"; "the least number from 0 on that is not the value of a position behind one of its jumps"
    private static void values() {
        due("value of no pegs", house('s', 0, ROW).value(), 0);
        due("value of all pegs", diamond('d', 8191).value(), 0);
        due("value of one jump", house('s', 3, 0, 1, 2).value(), 1);
        due("value of two jumps in a row", house('s', 0b01011, ROW).value(), 0);
        due("value of two like jumps", house('s', 0b01100, ROW).value(), 1);
        due("value of jumps to 0 and 1", house('s', 0b01101, ROW).value(), 2);
        due("value of two like rows", house('s', 0b01100_01100, TWO_ROWS).value(), 0);
        due("value of 2 and 1", house('s', 0b01100_01101, TWO_ROWS).value(), 3);
        due("value of 2 and 2", house('s', 0b01101_01101, TWO_ROWS).value(), 0);
    }

    // "the jump with the lowest code behind which the value is 0"
    private static void winning() {
        due("winning of one jump", house('s', 3, 0, 1, 2).winning(), 2);
        due("winning of two like ones", house('s', 0b01100, ROW).winning(), 204);
        due("winning by the higher one", house('s', 0b10110, ROW).winning(), 200);
        due("winning of 2 and 1", house('s', 0b01100_01101, TWO_ROWS).winning(), 301);
        PegshoreHouse last = house('s', 0b11 << 11, 0, 1, 3, 4, 5, 7, 8, 9, 16, 18, 20, 21, 22);
        due("winning by the greatest code", last.winning(), 1210);
        PegshoreHouse zero = house('s', 0b01011, ROW);
        due("winning of the value 0", answer(zero, PegshoreHouse::winning), "NoSuchElementException");
    }

    // "A row of at most 12 holes is told one by one"; "how many holes were told"
    private static void tellingAndClearing() {
        PegshoreHouse house = diamond('s', 0);
        due("clear of none", house.clear(), 0);
        for (int told = 1; told <= 12; told++) {
            due("tell", house.tell(13 - told), told);
        }
        due("clear of twelve", house.clear(), 12);
        due("clear of none again", house.clear(), 0);
        due("tell behind clear", house.tell(12), 1);
        PegshoreHouse busy = midst();
        busy.tell(0);
        due("clear of busy", busy.clear(), 3);
        dueAll("busy behind clear", busy, new int[] {1, 1, 0b01100, 0b10000, 0}, PegshoreHouse::made,
                PegshoreHouse::sweeps, PegshoreHouse::now, h -> h.setEnd(0), PegshoreHouse::faultAt);
        PegshoreHouse same = house('s', 1, 12);
        for (int told = 1; told <= 12; told++) {
            due("tell the same", same.tell(0), told);
        }
        due("fault of the same", same.faultAt(), 1);
    }

    // "it is played as the first one's peg, jumping to the others, in their order"; "Plays the row, and takes it away"
    private static void playing() {
        due("play of one jump", told(3, 0, 2).play(), 1);
        PegshoreHouse two = told(0b01011, 0, 2, 4);
        two.setEnd(0b10000);
        due("play of two jumps", two.play(), 2);
        dueAll("behind play", two, new int[] {0b10000, 2, 1, 0, 0b10000, 204, 2, 0b01011}, PegshoreHouse::now,
                PegshoreHouse::made, PegshoreHouse::sweeps, PegshoreHouse::clear, h -> h.setEnd(0),
                PegshoreHouse::takeBack, PegshoreHouse::takeBack, PegshoreHouse::now);
        PegshoreHouse back = told(0b01100, 3, 1);
        due("play of a jump left", back.play(), 1);
        due("now behind a jump left", back.now(), 0b00010);
        PegshoreHouse busy = midst();
        due("play behind a jump", busy.play(), 1);
        due("made behind both", busy.made(), 2);
        due("tell behind play", busy.tell(0), 1);
    }

    // "the first hole to which its peg cannot jump; 0 if there is no hole, or no peg at the first one; 1 if there is the
    // first one alone"
    private static void faults() {
        due("faultAt of no hole", told(31).faultAt(), 0);
        due("faultAt of one hole without a peg", told(27, 2).faultAt(), 0);
        due("faultAt without a peg at the first one", told(0b00010, 0, 2).faultAt(), 0);
        due("faultAt without pegs", told(0, 0, 2, 4).faultAt(), 0);
        due("faultAt of one hole with a peg", told(27, 0).faultAt(), 1);
        due("faultAt of the last hole with a peg", told(27, 4).faultAt(), 1);
        due("faultAt of the second", told(27, 0, 1).faultAt(), 1);
        due("faultAt of the second, the same", told(27, 0, 0).faultAt(), 1);
        due("faultAt of the third", told(0b01011, 0, 2, 2).faultAt(), 2);
        due("faultAt over a peg that is taken", told(0b00011, 0, 2, 0).faultAt(), 2);
        due("faultAt of the fourth", told(0b01011, 0, 2, 4, 2).faultAt(), 3);
        due("faultAt of the second of twelve", fullRow().faultAt(), 1);
        PegshoreHouse house = diamond('d', 8191 - (1 << 4) - (1 << 6) - (1 << 8) - (1 << 12));
        for (int hole : new int[] {0, 6, 4, 0, 8, 6, 12, 8, 6, 0, 4, 6}) {
            house.tell(hole);
        }
        due("faultAt behind seven jumps, of twelve", house.faultAt(), 8);
        PegshoreHouse later = told(27, 2, 4);
        due("faultAt ahead of put", later.faultAt(), 0);
        later.put(0b01100);
        due("faultAt behind put", answer(later, PegshoreHouse::faultAt), "NoSuchElementException");
    }

    private static BigInteger on(BigInteger sum, long more) {
        return sum.multiply(BigInteger.valueOf(31)).add(BigInteger.valueOf(more));
    }

    /** The checksum that is due, in numbers without an end, of which a long keeps the low 64 bits. */
    private static BigInteger dueSum(int[] cells, int[] weights, int now, int end, int... codes) {
        BigInteger sum = BigInteger.valueOf(7);
        for (int i = 0; i < cells.length; i++) {
            sum = on(on(sum, cells[i]), weights[i]);
        }
        sum = on(on(sum, now), end);
        for (int code : codes) {
            sum = on(sum, code);
        }
        return sum;
    }

    // "7 at first, then for each hole 31 times itself plus its cell, and 31 times itself plus its weight": sums above what
    // an int holds, and above what a long does
    private static void checksums() {
        due("checksum of no holes", new PegshoreHouse().checksum(), 6727L);
        BigInteger three = dueSum(new int[] {0, 1, 2}, new int[3], 0, 0);
        due("a sum beyond int", three.bitLength() > 32 && three.bitLength() < 64, true);
        due("checksum beyond int", house('s', 0, 0, 1, 2).checksum(), three.longValue());
        PegshoreHouse house = house('d', 8187, LONG_GAME);
        int[] weights = new int[13];
        for (int hole = 0; hole < 13; hole++) {
            weights[hole] = hole % 2 == 0 ? -99 : 99;
            house.weigh(hole, weights[hole]);
        }
        house.setEnd(4);
        int[] codes = new int[0];
        for (int made = 0; made <= 11; made++) {
            BigInteger sum = dueSum(LONG_GAME, weights, house.now(), 4, codes);
            due("a sum beyond long", sum.bitLength() > 64, true);
            due("checksum beyond long with " + made + " jumps", house.checksum(), sum.longValue());
            if (made < 11) {
                codes = Arrays.copyOf(codes, made + 1);
                codes[made] = house.hint();
                house.jump(codes[made] / 100, codes[made] % 100);
            }
        }
        PegshoreHouse told = told(27, 0, 2);
        due("checksum with a row told", told.checksum(), row().checksum());
        due("checksum of another kind", house('t', 27, ROW).checksum(), row().checksum());
    }

    // "the bits of their number divided by that of all, both converted to float", from none to all of 1 to 13
    private static void shares() {
        for (int holes = 1; holes <= 13; holes++) {
            PegshoreHouse house = new PegshoreHouse();
            for (int cell = 0; cell < holes; cell++) {
                house.drill(24 - cell);
            }
            due("pegBits of none in " + holes, house.pegBits(), 0);
            for (int pegs = 1; pegs <= holes; pegs++) {
                house.put((1 << holes) - (1 << holes - pegs));
                int want = Float.floatToIntBits((float) pegs / (float) holes);
                due("pegBits of " + pegs + " in " + holes, house.pegBits(), want);
            }
            due("pegBits of all in " + holes, house.pegBits(), 1065353216);
        }
    }

    // "the sum divided by how many these are, both converted to double"
    private static void means() {
        due("meanJumps of no holes", new PegshoreHouse().meanJumps(), 0.0);
        due("meanJumps of all pegs", diamond('d', 8191).meanJumps(), 0.0);
        due("meanJumps of one jump", house('s', 3, 0, 1, 2).meanJumps(), 0.5);
        due("meanJumps of a third", house('s', 0b00110, ROW).meanJumps(), 2.0 / 3.0);
        due("meanJumps of two rows", twoRows().meanJumps(), 24.0 / 16.0);
        PegshoreHouse house = house('s', 3, 0, 1, 2);
        house.jump(0, 2);
        due("meanJumps behind the jump", house.meanJumps(), 0.0);
    }

    /** Nine holes with a jump made, behind and ahead of which all that is asked has other answers. */
    private static PegshoreHouse nine() {
        PegshoreHouse house = house('t', 0b010_110_111, SQUARE);
        house.setEnd(0b100_000_001);
        int last = house.jumpAt(house.jumps() - 1);
        house.jump(last / 100, last % 100);
        return house;
    }

    private static Object losesAt(PegshoreHouse house, int index) {
        return house.loses(house.jumpAt(index) / 100, house.jumpAt(index) % 100);
    }

    /** What is asked of all that can be come to, which the house may keep from one call to the next. */
    private static final Call[] ASKING = {PegshoreHouse::canEnd, PegshoreHouse::ways, PegshoreHouse::hint,
        PegshoreHouse::reached, PegshoreHouse::dead, PegshoreHouse::fewest, PegshoreHouse::leastSweeps,
        PegshoreHouse::highest, PegshoreHouse::value, PegshoreHouse::winning, PegshoreHouse::meanJumps,
        h -> losesAt(h, 0), h -> losesAt(h, 1)};
    private static final Call[] CHANGING = {PegshoreHouse::now, PegshoreHouse::takeBack, h -> h.put(0b101_011_110),
        h -> h.put(0b111_110_111), h -> h.put(0b000_011_110), h -> h.put(0b000_000_011), h -> h.put(0),
        h -> h.setEnd(0b000_000_100), h -> h.setEnd(0b010_000_000), h -> h.setEnd(h.now()),
        h -> h.jump(h.jumpAt(0) / 100, h.jumpAt(0) % 100),
        h -> h.setKind('d'), h -> h.setKind('s'), h -> h.drill(3), h -> h.fill(12), h -> h.fill(0),
        h -> h.fill(10) + h.drill(3) + h.put(0b110_111_011)};

    // What was asked ahead changes no answer: any two of these calls, then a change, then the same ones again
    private static void askedTwice() {
        for (int change = 0; change < CHANGING.length; change++) {
            Object[] want = new Object[ASKING.length];
            for (int i = 0; i < ASKING.length; i++) {
                PegshoreHouse fresh = nine();
                CHANGING[change].on(fresh);
                want[i] = answer(fresh, ASKING[i]);
            }
            for (int first = 0; first < ASKING.length; first++) {
                for (int second = 0; second < ASKING.length; second++) {
                    PegshoreHouse house = nine();
                    answer(house, ASKING[first]);
                    answer(house, ASKING[second]);
                    CHANGING[change].on(house);
                    String when = " of " + first + " and " + second + " behind change " + change;
                    due("the first" + when, answer(house, ASKING[first]), want[first]);
                    due("the second" + when, answer(house, ASKING[second]), want[second]);
                    due("the first again" + when, answer(house, ASKING[first]), want[first]);
                }
            }
        }
    }

    // "An object is used for at most 512 calls"
    private static void lastCall() {
        PegshoreHouse house = new PegshoreHouse();
        for (int cell : LONG_GAME) {
            house.drill(cell);
        }
        house.setKind('d');
        house.setEnd(4);
        for (int call = 16; call <= 511; call++) {
            if (call % 2 == 0) {
                house.put(8187);
            } else {
                due("reached of call " + call, house.reached() > 1, true);
            }
        }
        due("ways of the 512th call", house.ways(), 8426L);
    }
}
