/** What the tests written by hand share: houses to begin with, and checks of answers and of refused calls. */
class Checks {
    static final int[] ROW = {0, 1, 2, 3, 4};
    static final int[] TWO_ROWS = {0, 1, 2, 3, 4, 10, 11, 12, 13, 14};
    static final int[] DIAMOND = {2, 6, 7, 8, 10, 11, 12, 13, 14, 16, 17, 18, 22};
    static final int[] SQUARE = {0, 1, 2, 5, 6, 7, 10, 11, 12};
    private static int wrong = 0;

    interface Call {
        Object on(PegshoreHouse house);
    }

    interface Recipe {
        PegshoreHouse make();
    }

    static void due(String what, Object got, Object want) {
        if (!want.equals(got)) {
            wrong++;
            System.out.println(what + " answered " + got + ", due is " + want);
        }
    }

    /** The call throws, and leaves its house as one on which it was not called. */
    static void thrown(String what, Recipe recipe, Class<?> want, Call call) {
        PegshoreHouse house = recipe.make();
        due(what, answer(house, call), want.getSimpleName());
        due("the house after " + what, picture(house), picture(recipe.make()));
    }

    static Object answer(PegshoreHouse house, Call call) {
        try {
            return call.on(house);
        } catch (RuntimeException e) {
            return e.getClass().getSimpleName();
        }
    }

    /** All that a house tells of itself; what it was made of is taken apart by it. */
    static String picture(PegshoreHouse house) {
        StringBuilder text = new StringBuilder();
        Call[] calls = {PegshoreHouse::checksum, PegshoreHouse::now, PegshoreHouse::made, PegshoreHouse::sweeps,
            PegshoreHouse::lines, PegshoreHouse::symmetries, PegshoreHouse::jumps, PegshoreHouse::canEnd,
            PegshoreHouse::ways, PegshoreHouse::hint, PegshoreHouse::reached, PegshoreHouse::dead, PegshoreHouse::fewest,
            PegshoreHouse::leastSweeps, PegshoreHouse::highest, PegshoreHouse::isProof, PegshoreHouse::fault,
            PegshoreHouse::value, PegshoreHouse::winning, PegshoreHouse::pegBits, PegshoreHouse::meanJumps,
            PegshoreHouse::isSound, PegshoreHouse::faultAt, PegshoreHouse::play, PegshoreHouse::clear};
        for (Call call : calls) {
            text.append(answer(house, call)).append(' ');
        }
        for (int hole = 0; hole < 13; hole++) {
            int one = hole;
            text.append(answer(house, h -> h.cell(one))).append(' ').append(answer(house, h -> h.weight(1 << one))).append(' ');
        }
        while (house.made() > 0) {
            text.append(house.takeBack()).append(' ').append(house.now()).append(' ');
        }
        return text.append(house.setEnd(0)).append(' ').append(house.setKind('s')).toString();
    }

    static PegshoreHouse house(char kind, int pegs, int... cells) {
        PegshoreHouse house = new PegshoreHouse();
        house.setKind(kind);
        for (int cell : cells) {
            house.drill(cell);
        }
        house.put(pegs);
        return house;
    }

    static PegshoreHouse row() {
        return house('s', 27, ROW);
    }

    static PegshoreHouse diamond(char kind, int pegs) {
        return house(kind, pegs, DIAMOND);
    }

    /** A row board of five holes that tells a row. */
    static PegshoreHouse told(int pegs, int... holes) {
        PegshoreHouse house = house('s', pegs, ROW);
        for (int hole : holes) {
            house.tell(hole);
        }
        return house;
    }

    static PegshoreHouse fullRow() {
        return told(27, 0, 1, 2, 3, 4, 0, 1, 2, 3, 4, 0, 1);
    }

    /** In the midst of all, with a row told that can be played on. */
    static PegshoreHouse midst() {
        PegshoreHouse house = house('s', 0b01011, ROW);
        for (int hole = 0; hole < 5; hole++) {
            house.weigh(hole, 10 * hole - 20);
        }
        house.setEnd(0b10000);
        house.jump(0, 2);
        house.tell(2);
        house.tell(4);
        return house;
    }

    static PegshoreHouse weighed(int... weights) {
        PegshoreHouse house = house('s', 3, ROW);
        for (int hole = 0; hole < weights.length; hole++) {
            house.weigh(hole, weights[hole]);
        }
        return house;
    }

    static void finish(String holds) {
        System.out.println(wrong == 0 ? holds : wrong + " answers are not as due");
        if (wrong != 0) {
            System.exit(1);
        }
    }
}
