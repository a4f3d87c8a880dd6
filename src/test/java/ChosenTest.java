/** Promises 21 to 24: greedy, best, bound, rounds. */
public final class ChosenTest {
    private static final Checks checks = new Checks("ChosenTest");

    public static void main(String[] args) {
        wrongNumbers();
        greedyIsNotBest();
        ofSeveral();
        pursesAndValleys();
        bounds();
        rounds();
        noPeople();
        checks.end();
    }

    private static void wrongNumbers() {
        TellFirst x = Checks.made("person a;person b;tie a to b odds 4;");
        int[][] wrong = {{0, 9}, {5, 9}, {-1, 9}, {1, -1}, {1, 1000}};
        for (int[] w : wrong) {
            checks.due(x, "greedy", x.greedy(w[0], w[1]), -1, 5);
            checks.due(x, "best", x.best(w[0], w[1]), -1, 5);
            checks.due(x, "bound", x.bound(w[0], w[1]), false, 5);
        }
        checks.fraction(x, "calls that failed", 0, 1);
        checks.due(x, "greedy(4, 999)", x.greedy(4, 999), 3, 0);
        checks.due(x, "best(4, 999)", x.best(4, 999), 3, 0);
        checks.due(x, "bound(4, 999)", x.bound(4, 999), true, 0);
        checks.fraction(x, "bound", 2, 1);
        checks.due(x, "greedy(1, 0)", x.greedy(1, 0), 0, 0);
        checks.fraction(x, "greedy of none", 0, 1);
    }

    /** The middle one reaches most alone; the two at the sides reach all. */
    private static void greedyIsNotBest() {
        TellFirst x = Checks.made("person m;person l;person r;person a;person b;person c;person d;"
            + "tie m to b odds 16;tie m to c odds 16;tie m to a odds 8;"
            + "tie l to a odds 16;tie l to b odds 16;tie r to c odds 16;tie r to d odds 15;");
        checks.due(x, "greedy 1", x.greedy(1, 9), 1, 0);
        checks.fraction(x, "greedy 1", 7, 2);
        checks.due(x, "greedy 2", x.greedy(2, 9), 1 | 4, 0);
        checks.fraction(x, "greedy 2", 7 * 8 + 16 + 15, 16);
        checks.due(x, "best 2", x.best(2, 9), 6, 0);
        checks.fraction(x, "best 2", 5 * 16 + 15, 16);
        checks.due(x, "bound 2", x.bound(2, 9), true, 0);
        // What one more adds to m and r: l 1 and a half, a a half, d a sixteenth.
        checks.fraction(x, "bound 2", 7 * 8 + 16 + 15 + 24 + 8, 16);
    }

    private static void ofSeveral() {
        TellFirst x = Checks.made("person a;person b;person c;tie b to a odds 16;tie c to a odds 16;");
        checks.due(x, "the lesser", x.greedy(1, 9), 2, 0);
        checks.due(x, "the least set", x.best(1, 9), 2, 0);
        checks.due(x, "no more grows", x.greedy(4, 9), 6, 0);
        checks.due(x, "the one of fewest", x.best(4, 9), 6, 0);
        checks.fraction(x, "best", 3, 1);
    }

    private static void pursesAndValleys() {
        TellFirst x = Checks.made("person a costs 5 in 1;person b costs 3 in 1;person c costs 0 in 2;person d costs 99;"
            + "valley 1 most 1;tie a to d odds 8;");
        checks.due(x, "the purse", x.greedy(4, 4), 6, 0);
        checks.due(x, "just enough", x.greedy(4, 5), 5, 0);
        checks.due(x, "the valley lets one", x.greedy(4, 999), 13, 0);
        checks.due(x, "best as well", x.best(4, 999), 13, 0);
        checks.due(x, "nothing but what costs nothing", x.best(4, 0), 4, 0);
        checks.due(x, "bound, whatever it costs and its valley", x.bound(1, 0), true, 0);
        checks.fraction(x, "bound", 5, 2);
        x = Checks.made("valley 0 most 0;person a;person b in 3;");
        checks.due(x, "none of valley 0", x.best(2, 9), 2, 0);
        checks.due(x, "none of valley 0", x.greedy(2, 9), 2, 0);
    }

    private static void bounds() {
        TellFirst x = Checks.made("person a;person b;person c;tie a to b odds 8;tie b to c odds 4;");
        checks.due(x, "bound(1)", x.bound(1, 999), true, 0);
        checks.fraction(x, "bound(1)", 5, 2);
        checks.due(x, "bound(4) with fewer left", x.bound(4, 999), true, 0);
        checks.fraction(x, "bound(4)", 3, 1);
        checks.due(x, "bound(2, 0)", x.bound(2, 0), true, 0);
        checks.fraction(x, "bound(2, 0) of none", 13 + 10, 8);
        x = Checks.made("person a;");
        checks.due(x, "bound of one", x.bound(1, 0), true, 0);
        checks.fraction(x, "bound of one", 1, 1);
    }

    private static void rounds() {
        TellFirst x = Checks.made("person a;person b;person c;tie a to b odds 8;tie b to c odds 4;");
        checks.due(x, "seen", x.rounds(0), 0, 0);
        checks.fraction(x, "seen", 21, 8);
        checks.due(x, "blind", x.rounds(1), 5, 0);
        checks.fraction(x, "blind", 5, 2);
        checks.due(x, "above", x.rounds(2), 5, 0);
        checks.fraction(x, "above", 1, 8);
        checks.due(x, "rounds(3)", x.rounds(3), -1, 5);
        checks.due(x, "rounds(-1)", x.rounds(-1), -1, 5);
        checks.fraction(x, "calls that failed", 1, 8);
        x = Checks.made("person a costs 99 in 1;valley 1 most 0;");
        checks.due(x, "one alone", x.rounds(0), 0, 0);
        checks.fraction(x, "one alone", 1, 1);
        checks.due(x, "one alone", x.rounds(1), 1, 0);
        checks.due(x, "one alone", x.rounds(2), 1, 0);
        checks.fraction(x, "one alone", 0, 1);
        x = Checks.made("person a;person b;person c;tie a to b odds 8;tie c to b odds 8;");
        checks.due(x, "of several the least", x.rounds(1), 5, 0);
        x = Checks.made("person a;person b;person c;");
        checks.due(x, "of several the least", x.rounds(1), 3, 0);
        star();
        x = Checks.made("person a;person b;person c;tie b to a odds 16;tie b to c odds 16;");
        checks.due(x, "of several the lesser", x.rounds(0), 0, 0);
        checks.due(x, "the one of fewest", x.rounds(1), 2, 0);
    }

    /** One tells ten others, each at even odds, and none the twelfth: 1024 views. */
    private static void star() {
        StringBuilder text = new StringBuilder("person a;");
        for (char name = 'b'; name <= 'l'; name++) {
            text.append("person ").append(name).append(name < 'l' ? ";tie a to " + name + " odds 8;" : ";");
        }
        TellFirst x = Checks.made(text.toString());
        checks.due(x, "star", x.rounds(0), 0, 0);
        checks.fraction(x, "star", 7, 1);
        checks.due(x, "star", x.rounds(2), 1 | 1 << 11, 0);
        checks.fraction(x, "star", 0, 1);
        x.refuse(11, true);
        checks.due(x, "a stubborn twelfth may be told", x.rounds(0), 0, 0);
        checks.fraction(x, "a stubborn twelfth may be told", 7, 1);
        checks.due(x, "greedy", x.greedy(4, 9), 1 | 2 | 4 | 1 << 11, 0);
        checks.fraction(x, "greedy", 8, 1);
        checks.due(x, "best", x.best(4, 9), 1 | 2 | 4 | 1 << 11, 0);
        checks.due(x, "bound", x.bound(4, 9), true, 0);
        checks.fraction(x, "bound", 10, 1);
    }

    private static void noPeople() {
        TellFirst x = new TellFirst();
        checks.due(x, "greedy", x.greedy(4, 999), 0, 0);
        checks.due(x, "best", x.best(4, 999), 0, 0);
        checks.due(x, "bound", x.bound(4, 999), true, 0);
        checks.fraction(x, "bound", 0, 1);
        for (int what = 0; what < 3; what++) {
            checks.due(x, "rounds", x.rounds(what), -1, 8);
        }
        checks.due(x, "rounds(3)", x.rounds(3), -1, 5);
    }
}
