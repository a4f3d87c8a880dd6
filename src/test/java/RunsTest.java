/** Promises 29 to 33: source, run, likeliest, neverTried, telling. */
public final class RunsTest {
    private static final Checks checks = new Checks("RunsTest");

    public static void main(String[] args) {
        sourceStatus();
        sources();
        runStatus();
        likeliest();
        neverTried();
        telling();
        tellingTooMany();
        checks.end();
    }

    private static void sourceStatus() {
        TellFirst x = Checks.made("person a;person b;tie a to b odds 8;");
        checks.due(x, "no tray", x.source(4, 150, 2), false, 1);
        checks.due(x, "no person", x.source(0, 150, 2), false, 2);
        checks.due(x, "person -1", x.source(0, 150, -1), false, 2);
        checks.due(x, "missing", x.source(0, 150, 0), false, 3);
        Checks.fill(x, 0, 1, 7);
        checks.due(x, "hour 150", x.source(0, 150, 0), false, 5);
        checks.due(x, "hour -1", x.source(0, -1, 0), false, 5);
        checks.due(x, "too few", x.source(0, 149, 0), false, 4);
        Checks.fill(x, 0, 1, 1, 2);
        checks.due(x, "2", x.source(0, 149, 0), false, 5);
        Checks.fill(x, 0, 1, -2, 1);
        checks.due(x, "-2", x.source(0, 149, 0), false, 5);
        Checks.fill(x, 0, 3, 1L << 32, 1);
        checks.due(x, "a long one", x.source(0, 149, 0), false, 5);
        Checks.fill(x, 0, 1, 0, 0);
        checks.due(x, "none began it", x.source(0, 149, 0), false, 9);
        checks.fraction(x, "calls that failed", 0, 1);
        Checks.fill(x, 0, 1, 1, 1, 99);
        checks.due(x, "one number more", x.source(0, 149, 0), true, 0);
        checks.fraction(x, "a surely", 1, 1);
    }

    private static void sources() {
        TellFirst x = Checks.made("person a;person b late 1;person c stubborn;tie a to b odds 8 hours 2;"
            + "tie c to b odds 4;tie b to c odds 16;");
        Checks.fill(x, 0, 0, -1, 1, -1);
        odds(x, 0, 2, 0, 0, 1);
        odds(x, 0, 2, 2, 1, 5);
        odds(x, 0, 2, 1, 4, 5);
        odds(x, 0, 3, 0, 8, 28);
        odds(x, 0, 3, 1, 16, 28);
        odds(x, 0, 3, 2, 4, 28);
        Checks.fill(x, 1, 2, -1, -1, -1);
        for (int p = 0; p < 3; p++) {
            odds(x, 1, 0, p, 1, 3);
        }
        Checks.fill(x, 1, 2, -1, 0, -1);
        odds(x, 1, 149, 0, 8, 20);
        odds(x, 1, 149, 1, 0, 1);
        odds(x, 1, 149, 2, 12, 20);
        Checks.fill(x, 1, 2, 1, 1, 1);
        checks.due(x, "it comes out in none", x.source(1, 149, 0), false, 9);
    }

    private static void odds(TellFirst x, int tray, int hour, int person, long top, long bottom) {
        checks.due(x, "source", x.source(tray, hour, person), true, 0);
        checks.fraction(x, "source of " + person + " by hour " + hour, top, bottom);
    }

    private static void runStatus() {
        TellFirst x = Checks.made("person a;person b;tie a to b odds 8;");
        checks.due(x, "no tray", x.run(4), -1, 1);
        checks.due(x, "no tray", x.run(-1), -1, 1);
        checks.due(x, "missing", x.run(0), -1, 3);
        Checks.fill(x, 0, 2, 999);
        checks.due(x, "too few", x.run(0), -1, 4);
        Checks.fill(x, 0, 2, 0, 150);
        checks.due(x, "150", x.run(0), -1, 5);
        Checks.fill(x, 0, 2, -2, 0);
        checks.due(x, "-2", x.run(0), -1, 5);
        Checks.fill(x, 1, 2, 149, -1, 999);
        for (int i = 0; i < 15; i++) {
            checks.due(x, "run", x.run(1), i, 0);
        }
        checks.due(x, "5 ahead of 7", x.run(0), -1, 5);
        checks.due(x, "one too many", x.run(1), -1, 7);
        TellFirst none = new TellFirst();
        none.tray(0, 0, 0);
        checks.due(none, "a run of none", none.run(0), 0, 0);
        checks.due(none, "telling of none", none.telling(0), 0, 0);
        checks.fraction(none, "telling of none", 1, 1);
    }

    private static void runs(TellFirst x, long[]... rows) {
        for (long[] row : rows) {
            Checks.fill(x, 0, 3, row);
            x.run(0);
        }
    }

    private static void likeliest() {
        TellFirst x = Checks.made("person a;person b late 1;tie a to b odds 8 hours 2;");
        checks.due(x, "no such tie", x.likeliest(1), -1, 2);
        checks.due(x, "tie -1", x.likeliest(-1), -1, 2);
        checks.due(x, "never tried", x.likeliest(0), -1, 8);
        runs(x, new long[] {-1, 3}, new long[] {4, 5}, new long[] {4, 4}, new long[] {4, 0});
        checks.due(x, "never tried yet", x.likeliest(0), -1, 8);
        runs(x, new long[] {4, -1});
        checks.due(x, "tried in vain", x.likeliest(0), 0, 0);
        runs(x, new long[] {4, 7});
        checks.due(x, "one of two", x.likeliest(0), 8, 0);
        runs(x, new long[] {4, 6});
        checks.due(x, "one of three: took as it was told, but it is late", x.likeliest(0), 5, 0);
        runs(x, new long[] {0, 3}, new long[] {1, 4}, new long[] {2, 5});
        checks.due(x, "four of six", x.likeliest(0), 11, 0);
        runs(x, new long[] {2, 99}, new long[] {2, 8});
        checks.due(x, "four of eight", x.likeliest(0), 8, 0);
        TellFirst all = Checks.made("person a;person b;tie a to b odds 8;");
        for (int i = 0; i < 15; i++) {
            runs(all, new long[] {i, i + 1});
        }
        checks.due(all, "fifteen of fifteen", all.likeliest(0), 16, 0);
        checks.due(all, "all tried", all.neverTried(), 0, 0);
    }

    private static void neverTried() {
        TellFirst x = Checks.made("person a;person b;person c;tie a to b odds 8 back;tie b to c odds 1 hours 3;");
        checks.due(x, "none tried", x.neverTried(), 7, 0);
        runs(x, new long[] {0, -1, -1});
        checks.due(x, "the first tried", x.neverTried(), 6, 0);
        runs(x, new long[] {1, 1, 3});
        checks.due(x, "too soon", x.neverTried(), 6, 0);
        runs(x, new long[] {1, 1, 4});
        checks.due(x, "in time", x.neverTried(), 2, 0);
        runs(x, new long[] {4, 3, 4});
        checks.due(x, "all", x.neverTried(), 0, 0);
    }

    private static void telling() {
        TellFirst x = Checks.made("person a;person b;person c;tie a to b odds 8;tie b to c odds 8;");
        runs(x, new long[] {0, 1, 2}, new long[] {0, 1, -1}, new long[] {5, 5, 5}, new long[] {3, 4, 3});
        tells(x, 0, 2, 1, 6);
        // a then b, or b then c, in 2 ways of 6.
        tells(x, 1, 1, 2, 6);
        tells(x, 2, 0, 6, 6);
        // Like hours are unlike: two ways for each place of the 4.
        tells(x, 3, 1, 4, 6);
        checks.due(x, "no run 4", x.telling(4), -1, 2);
        checks.due(x, "run -1", x.telling(-1), -1, 2);
        x = Checks.made("person a;person b in 1;person c in 1;tie a to b odds 8;tie b to c odds 8;");
        runs(x, new long[] {0, 1, 2});
        tells(x, 0, 2, 1, 2);
        x = Checks.made("person a;person b in 1;person c in 2;tie a to b odds 8;tie b to c odds 8;");
        runs(x, new long[] {0, 1, 2});
        tells(x, 0, 2, 1, 1);
    }

    private static void tells(TellFirst x, int run, int told, long top, long bottom) {
        checks.due(x, "telling " + run, x.telling(run), told, 0);
        checks.fraction(x, "telling " + run, top, bottom);
    }

    private static String people(int... byValley) {
        StringBuilder text = new StringBuilder();
        char name = 'a';
        for (int v = 0; v < byValley.length; v++) {
            for (int i = 0; i < byValley[v]; i++) {
                text.append("person ").append(name++).append(" in ").append(v).append(";");
            }
        }
        return text.toString();
    }

    private static void tellingTooMany() {
        TellFirst x = Checks.made(people(7) + "tie a to b odds 1;");
        runs(x, new long[] {0, 1, -1, -1, -1, -1, -1});
        tells(x, 0, 1, 1, 42);
        x = Checks.made(people(8));
        runs(x, new long[8]);
        checks.due(x, "40,320 ways", x.telling(0), -1, 9);
        checks.fraction(x, "none told", 0, 1);
        x = Checks.made(people(5, 4, 2) + "tie a to b odds 1;");
        runs(x, new long[11]);
        checks.due(x, "5,760 ways", x.telling(0), -1, 9);
        x = Checks.made(people(4, 4, 3, 1) + "tie l to a odds 1;");
        runs(x, new long[] {3, 1, 1, 1, 0, 0, 0, 0, 0, 0, 0, 2});
        tells(x, 0, 1, 1, 4);
        x = Checks.made(people(12));
        runs(x, new long[12]);
        checks.due(x, "very many ways", x.telling(0), -1, 9);
    }
}
