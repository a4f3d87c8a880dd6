/** Promises 16 to 20: weight, reached, backWalk, spread, adds. */
public final class SpreadTest {
    private static final Checks checks = new Checks("SpreadTest");

    public static void main(String[] args) {
        weights();
        reaching();
        walkingBack();
        spreads();
        adding();
        fullNet();
        checks.end();
    }

    private static void weights() {
        TellFirst none = new TellFirst();
        checks.due(none, "the one lot of no net", none.weight(0), 1, 0);
        checks.due(none, "no other lot", none.weight(1), -1, 2);
        TellFirst x = Checks.made("person a;person b;tie a to b odds 5;tie b to a odds 16;");
        checks.due(x, "weight(0)", x.weight(0), 0, 0);
        checks.due(x, "weight(1)", x.weight(1), 0, 0);
        checks.due(x, "weight(2)", x.weight(2), 11 * 16, 0);
        checks.due(x, "weight(3)", x.weight(3), 5 * 16, 0);
        checks.due(x, "weight(4)", x.weight(4), -1, 2);
        checks.due(x, "weight(-1)", x.weight(-1), -1, 2);
        checks.due(x, "weight(min)", x.weight(Integer.MIN_VALUE), -1, 2);
    }

    private static void reaching() {
        TellFirst x = Checks.made("person a;person b needs 2;person c stubborn;person d;"
            + "tie a to b odds 1;tie c to b odds 1;tie b to d odds 1;tie d to c odds 1;");
        checks.due(x, "one is too few", x.reached(1, 15), 1, 0);
        checks.due(x, "two are enough", x.reached(5, 15), 15, 0);
        checks.due(x, "two, one of them closed", x.reached(5, 13), 5, 0);
        checks.due(x, "none to a stubborn one", x.reached(8, 15), 8, 0);
        checks.due(x, "a stubborn seed", x.reached(4, 15), 4, 0);
        checks.due(x, "a seed that would need two", x.reached(2, 15), 10, 0);
        checks.due(x, "of none", x.reached(0, 15), 0, 0);
        checks.due(x, "seeds with others", x.reached(16, 15), -1, 2);
        checks.due(x, "seeds below 0", x.reached(-1, 15), -1, 2);
        checks.due(x, "a lot with others", x.reached(1, 16), -1, 2);
        checks.due(x, "a lot below 0", x.reached(1, -1), -1, 2);
    }

    private static void walkingBack() {
        TellFirst x = Checks.made("person a;person b needs 3;person c stubborn;person d;person e;"
            + "tie a to b odds 1;tie b to d odds 1;tie c to d odds 1;tie e to c odds 1;tie d to a odds 1;");
        checks.due(x, "over others, whatever they need", x.backWalk(3, 31), 15, 0);
        checks.due(x, "not over a stubborn one", x.backWalk(3, 12), 12, 0);
        checks.due(x, "of a stubborn one", x.backWalk(2, 31), 4, 0);
        checks.due(x, "of one to whom none leads", x.backWalk(4, 31), 16, 0);
        checks.due(x, "in a circle", x.backWalk(0, 31), 15, 0);
        checks.due(x, "closed ones", x.backWalk(0, 17), 9, 0);
        checks.due(x, "no such person", x.backWalk(5, 0), -1, 2);
        checks.due(x, "person -1", x.backWalk(-1, 0), -1, 2);
        checks.due(x, "no such lot", x.backWalk(0, 32), -1, 2);
        StringBuilder chain = new StringBuilder("person a;");
        for (char name = 'b'; name <= 'k'; name++) {
            chain.append("person ").append(name).append(";tie ").append((char) (name - 1)).append(" to ").append(name)
                .append(" odds 8;");
        }
        x = Checks.made(chain.toString());
        checks.due(x, "over ten ties", x.backWalk(10, 1023), 2047, 0);
        checks.due(x, "over five ties", x.backWalk(10, 1023 - 16), 2047 - 31, 0);
    }

    private static void spreads() {
        TellFirst x = Checks.made("person a;person b;person c;tie a to b odds 8;tie b to c odds 4;");
        checks.due(x, "spread", x.spread(1, 0), true, 0);
        checks.fraction(x, "spread of a", 13, 8);
        checks.due(x, "closed", x.spread(1, 2), true, 0);
        checks.fraction(x, "spread of a, the second closed", 3, 2);
        checks.due(x, "seeds with others", x.spread(8, 0), false, 2);
        checks.due(x, "ties with others", x.spread(1, 4), false, 2);
        checks.due(x, "ties below 0", x.spread(1, -1), false, 2);
        checks.fraction(x, "calls that failed", 3, 2);
        checks.due(x, "none", x.spread(0, 3), true, 0);
        checks.fraction(x, "spread of none", 0, 1);
        x = Checks.made("person a;person b;person c needs 2;tie a to c odds 4;tie b to c odds 12 back;");
        checks.due(x, "two needed", x.spread(3, 0), true, 0);
        checks.fraction(x, "two needed", 2 * 16 + 3, 16);
        checks.due(x, "from c", x.spread(4, 0), true, 0);
        checks.fraction(x, "from c", 7, 4);
    }

    private static void adding() {
        TellFirst x = Checks.made("person a;person b;person c stubborn;tie a to b odds 4;tie a to c odds 16;");
        checks.due(x, "adds", x.adds(1, 1), true, 0);
        checks.fraction(x, "b to a", 3, 4);
        checks.due(x, "adds", x.adds(0, 0), true, 0);
        checks.fraction(x, "a to none", 5, 4);
        checks.due(x, "adds", x.adds(3, 2), true, 0);
        checks.fraction(x, "a stubborn one", 1, 1);
        checks.due(x, "one of them", x.adds(3, 1), true, 0);
        checks.fraction(x, "one of them", 0, 1);
        x.adds(1, 1);
        checks.due(x, "seeds with others", x.adds(8, 1), false, 2);
        checks.due(x, "no such person", x.adds(1, 3), false, 2);
        checks.due(x, "person -1", x.adds(1, -1), false, 2);
        checks.due(x, "person 32", x.adds(1, 32), false, 2);
        checks.fraction(x, "calls that failed", 3, 4);
    }

    /** Twelve people, ten ties: all lots by the class's own weight and reached. */
    private static void fullNet() {
        StringBuilder text = new StringBuilder();
        for (int p = 0; p < 12; p++) {
            text.append("person ").append((char) ('a' + p)).append(p % 5 == 4 ? " needs 2;" : ";");
        }
        int[][] ties = {{0, 1}, {1, 2}, {2, 4}, {1, 4}, {4, 5}, {5, 9}, {2, 9}, {9, 10}, {10, 0}, {0, 11}};
        for (int t = 0; t < 10; t++) {
            text.append("tie ").append((char) ('a' + ties[t][0])).append(" to ").append((char) ('a' + ties[t][1]))
                .append(" odds ").append(t * 7 % 16 + 1).append(";");
        }
        TellFirst x = Checks.made(text.toString());
        long all = 0;
        for (int lot = 0; lot < 1024; lot++) {
            all += x.weight(lot);
        }
        checks.due("all weights together", all, 1L << 40);
        for (int seeds = 0; seeds < 4096; seeds += 37) {
            long sum = 0;
            for (int lot = 0; lot < 1024; lot++) {
                sum += x.weight(lot) * Integer.bitCount(x.reached(seeds, lot));
            }
            checks.due(x, "spread " + seeds, x.spread(seeds, 0), true, 0);
            checks.fraction(x, "spread " + seeds, sum, 1L << 40);
        }
        checks.due(x, "all twelve", x.spread(4095, 1023), true, 0);
        checks.fraction(x, "all twelve", 12, 1);
    }
}
