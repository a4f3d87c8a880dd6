/** Promises 1 to 8: a new object, status, top, bottom, tray, write, read, pour. */
public final class TraysTest {
    private static final Checks checks = new Checks("TraysTest");

    public static void main(String[] args) {
        newObject();
        statusIsOfTheLatestCallThatHasOne();
        fractionStays();
        trayMaking();
        writingAndReading();
        pouring();
        checks.end();
    }

    private static void newObject() {
        TellFirst x = new TellFirst();
        checks.due("NONE", TellFirst.NONE, -1);
        checks.due("new status", x.status(), 0);
        checks.due("new top", x.top(), 0);
        checks.due("new bottom", x.bottom(), 1);
        checks.due("new fault 0", x.fault(0), -1);
        checks.due("new fault 1", x.fault(1), -1);
        for (int t = 0; t < 4; t++) {
            checks.due(x, "read of a missing tray", x.read(t, 0), -1, 3);
        }
        checks.due(x, "many(0)", x.many(0), 0, 0);
        checks.due(x, "many(1)", x.many(1), 0, 0);
        checks.due(x, "net(1) of an empty tape", x.net(1), -1, 5);
        checks.due(x, "telling(0)", x.telling(0), -1, 2);
        checks.due("an empty tape", x.feed(0, 0, 0, 0, 0), 20);
    }

    private static void statusIsOfTheLatestCallThatHasOne() {
        TellFirst x = new TellFirst();
        x.tray(4, 0, 0);
        checks.due("status", x.status(), 1);
        checks.due("status again", x.status(), 1);
        x.top();
        x.bottom();
        x.fault(0);
        x.fault(9);
        x.feed(1, 2, 3, 4, 5);
        for (int i = 0; i < 31; i++) {
            x.feed(1, 2, 3, 4, 5);
        }
        checks.due("status behind calls that have none", x.status(), 1);
        x.neverTried();
        checks.due("status behind neverTried", x.status(), 0);
    }

    private static void fractionStays() {
        TellFirst x = Checks.made("person a; person b; tie a to b odds 4;");
        x.spread(1, 0);
        checks.fraction(x, "spread", 5, 4);
        x.spread(9, 0);
        x.greedy(0, 0);
        x.rounds(3);
        x.fight(1, 2, 21, 0);
        x.source(0, 0, 0);
        x.latest(1, 1);
        x.reached(1, 1);
        x.net(0);
        checks.fraction(x, "calls that tell none", 5, 4);
        x.spread(0, 0);
        checks.fraction(x, "spread of none", 0, 1);
    }

    private static void trayMaking() {
        TellFirst x = new TellFirst();
        checks.due(x, "tray(-1)", x.tray(-1, 0, 1), false, 1);
        checks.due(x, "tray(4)", x.tray(4, 0, 1), false, 1);
        checks.due(x, "sort -1", x.tray(0, -1, 1), false, 1);
        checks.due(x, "sort 4", x.tray(0, 4, 1), false, 1);
        checks.due(x, "sort 4 with 41", x.tray(0, 4, 41), false, 1);
        checks.due(x, "41 numbers", x.tray(0, 0, 41), false, 5);
        checks.due(x, "very many", x.tray(0, 0, Integer.MAX_VALUE), false, 5);
        checks.due(x, "-1 numbers", x.tray(0, 0, -1), false, 6);
        checks.due(x, "fewest", x.tray(0, 0, Integer.MIN_VALUE), false, 6);
        checks.due(x, "it is missing yet", x.read(0, 0), -1, 3);
        checks.due(x, "40 numbers", x.tray(0, 3, 40), true, 0);
        checks.due(x, "the last is 0", x.read(0, 39), 0, 0);
        checks.due(x, "write", x.write(0, 39, 7), true, 0);
        checks.due(x, "a wrong one changes nothing", x.tray(0, 0, 41), false, 5);
        checks.due(x, "still there", x.read(0, 39), 7, 0);
        checks.due(x, "anew", x.tray(0, 3, 40), true, 0);
        checks.due(x, "all 0", x.read(0, 39), 0, 0);
        checks.due(x, "of no numbers", x.tray(3, 1, 0), true, 0);
        checks.due(x, "it is there but has no place", x.read(3, 0), -1, 4);
    }

    private static void writingAndReading() {
        TellFirst x = new TellFirst();
        checks.due(x, "write to no tray", x.write(4, 0, 1), false, 1);
        checks.due(x, "write to a missing one", x.write(0, 0, 1), false, 3);
        checks.due(x, "read of no tray", x.read(-1, 0), -1, 1);
        for (int sort = 0; sort < 4; sort++) {
            x.tray(sort, sort, 3);
            checks.due(x, "place -1", x.write(sort, -1, 1), false, 4);
            checks.due(x, "place 3", x.write(sort, 3, 1), false, 4);
            checks.due(x, "read -1", x.read(sort, -1), -1, 4);
            checks.due(x, "read 3", x.read(sort, 3), -1, 4);
        }
        long[] values = {0, -1, 127, 128, 255, 256, 32767, 32768, 65535, 1L << 31, (1L << 31) - 1,
            1L << 32, Long.MAX_VALUE, Long.MIN_VALUE, -129, -32769};
        for (long v : values) {
            for (int sort = 0; sort < 4; sort++) {
                checks.due(x, "write " + v, x.write(sort, 2, v), true, 0);
                long want = sort == 0 ? (byte) v : sort == 1 ? (short) v : sort == 2 ? (int) v : v;
                checks.due(x, "read " + v + " of sort " + sort, x.read(sort, 2), want, 0);
                checks.due(x, "its neighbour", x.read(sort, 1), 0, 0);
            }
        }
    }

    private static void pouring() {
        TellFirst x = new TellFirst();
        Checks.fill(x, 0, 2, 1, 2, 3, 4, 5);
        checks.due(x, "no tray, other one missing", x.pour(4, 0, 1, 0, -1), false, 1);
        checks.due(x, "to no tray", x.pour(0, 0, -1, 0, 1), false, 1);
        checks.due(x, "missing to", x.pour(0, 0, 1, 0, -1), false, 3);
        checks.due(x, "missing from", x.pour(1, 0, 0, 0, -1), false, 3);
        x.tray(1, 1, 5);
        checks.due(x, "unlike sorts ahead of below 0", x.pour(0, 0, 1, 0, -1), false, 11);
        checks.due(x, "unlike sorts ahead of places", x.pour(0, 9, 1, 9, 1), false, 11);
        x.tray(1, 2, 4);
        checks.due(x, "below 0 ahead of places", x.pour(0, 9, 1, 9, -1), false, 6);
        checks.due(x, "i below 0", x.pour(0, -1, 1, 0, 1), false, 4);
        checks.due(x, "j below 0", x.pour(0, 0, 1, -1, 1), false, 4);
        checks.due(x, "too many of the first", x.pour(0, 3, 1, 0, 3), false, 4);
        checks.due(x, "too many for the second", x.pour(0, 0, 1, 0, 5), false, 4);
        checks.due(x, "very many", x.pour(0, 1, 1, 1, Integer.MAX_VALUE), false, 4);
        checks.due(x, "very far", x.pour(0, Integer.MAX_VALUE, 1, 0, 1), false, 4);
        checks.due(x, "none of it came", x.read(1, 0), 0, 0);
        checks.due(x, "pour", x.pour(0, 1, 1, 0, 4), true, 0);
        for (int i = 0; i < 4; i++) {
            checks.due(x, "poured " + i, x.read(1, i), i + 2, 0);
        }
        checks.due(x, "none at the end", x.pour(0, 5, 1, 4, 0), true, 0);
        checks.due(x, "none behind the end", x.pour(0, 6, 1, 0, 0), false, 4);
        checks.due(x, "up in the same", x.pour(0, 0, 0, 1, 4), true, 0);
        row(x, 0, 1, 1, 2, 3, 4);
        checks.due(x, "down in the same", x.pour(0, 1, 0, 0, 4), true, 0);
        row(x, 0, 1, 2, 3, 4, 4);
    }

    private static void row(TellFirst x, int tray, long... want) {
        for (int i = 0; i < want.length; i++) {
            checks.due(x, "row " + i, x.read(tray, i), want[i], 0);
        }
    }
}
